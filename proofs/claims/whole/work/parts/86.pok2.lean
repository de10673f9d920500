/-! LINES keep what holds; what a TEXT becomes -/
def okL (n : Nat) (P : SP) : Prop := okB n P ∧ cdP P ∧ dN P = 0
theorem nvr_0 {P : SP} {j : Nat} (h : ¬ j = 7) : nvr P 0 j = P 0 j := by simp [nvr, up_ap, h]
theorem nvr_7 {P : SP} : nvr P 0 7 = P 0 7 + 1 := by simp [nvr, up_ap]
theorem nvr_c {P : SP} {c : Nat} (h0 : ¬ c = 0) (h4 : ¬ c = 4) : nvr P c = P c := by
  funext j
  simp [nvr, up_ap, h0, h4]
theorem nvr_4 {P : SP} {j : Nat} : nvr P 4 j = if j = P 0 7 then P 0 1 else P 4 j := by simp [nvr, up_ap]
theorem arw_0 {w f z : Nat} {P : SP} {j : Nat} (h : ¬ j = 8) : arw w f z P 0 j = P 0 j := by simp [arw, up_ap, h]
theorem arw_8 {w f z : Nat} {P : SP} : arw w f z P 0 8 = P 0 8 + 1 := by simp [arw, up_ap]
theorem arw_c {w f z c : Nat} {P : SP} (h0 : ¬ c = 0) (h5 : ¬ c = 5) (h6 : ¬ c = 6) (h7 : ¬ c = 7) : arw w f z P c = P c := by
  funext j
  simp [arw, up_ap, h0, h5, h6, h7]
theorem arw_5 {w f z : Nat} {P : SP} {j : Nat} : arw w f z P 5 j = if j = P 0 8 then w else P 5 j := by simp [arw, up_ap]
theorem arw_6 {w f z : Nat} {P : SP} {j : Nat} : arw w f z P 6 j = if j = P 0 8 then f else P 6 j := by simp [arw, up_ap]
theorem arw_7 {w f z : Nat} {P : SP} {j : Nat} : arw w f z P 7 j = if j = P 0 8 then z else P 7 j := by simp [arw, up_ap]
section PL
variable {B : Nat → Nat} {n : Nat} {P P' : SP}
theorem nvr_ok (h : okB n P) (h0 : P 0 0 = 1) (h7 : P 0 7 < 8) (hl : P 0 11 = 1) : okB n (nvr P) := by
  obtain ⟨t, s, c, v, r⟩ := h
  refine ⟨okT_cg (fun j hj => nvr_0 (by omega)) t, ?_, ?_, fun x hx => ?_, ?_⟩
  · rw [nvr_0 (by decide), nvr_0 (by decide), nvr_0 (by decide)]; exact s
  · rw [nvr_0 (j := 6) (by decide), nvr_7, nvr_0 (j := 8) (by decide), nvr_0 (j := 9) (by decide), nvr_0 (j := 10) (by decide), nvr_0 (j := 11) (by decide)]
    omega
  · rw [nvr_7] at hx
    rw [nvr_4]
    split
    · exact t.2.2.2.2.1 h0
    · exact v x (by omega)
  · rw [nvr_0 (j := 8) (by decide), nvr_0 (j := 9) (by decide), nvr_c (c := 5) (by decide) (by decide), nvr_c (c := 6) (by decide) (by decide), nvr_c (c := 7) (by decide) (by decide)]
    exact r
theorem nvr_cd (h : cdP P) : cdP (nvr P) := cd_same (nvr_c (by decide) (by decide)) (nvr_c (by decide) (by decide)) (nvr_c (by decide) (by decide)) (nvr_c (by decide) (by decide)) (nvr_c (by decide) (by decide)) (nvr_0 (by decide)) (nvr_0 (by decide)) (by rw [nvr_7]; omega) (by rw [nvr_0 (by decide)]; omega) h
theorem nvr_dN : dN (nvr P) = dN P := by
  simp only [dN]
  rw [nvr_c (by decide) (by decide), nvr_0 (by decide)]
theorem nin_ok (h : okB n P) (h0 : P 0 0 = 1) (h6 : P 0 6 < 4) (hl : P 0 11 = 0) : okB n (up (nvr P) 0 6 (P 0 6 + 1)) := by
  obtain ⟨t, s, c, v, r⟩ := h
  have e : ∀ j, ¬ j = 6 → up (nvr P) 0 6 (P 0 6 + 1) 0 j = nvr P 0 j := fun j hj => up_nk hj
  have ec : ∀ c, ¬ c = 0 → up (nvr P) 0 6 (P 0 6 + 1) c = nvr P c := fun c hc => upc_ne hc
  have e6 : up (nvr P) 0 6 (P 0 6 + 1) 0 6 = P 0 6 + 1 := up_s
  have hc7 := c.2.2.2.2.2.2.2 hl
  refine ⟨okT_cg (fun j hj => (e j (by omega)).trans (nvr_0 (by omega))) t, ?_, ?_, fun x hx => ?_, ?_⟩
  · rw [e 4 (by decide), e 2 (by decide), e 5 (by decide), nvr_0 (by decide), nvr_0 (by decide), nvr_0 (by decide)]; exact s
  · rw [e6, e 7 (by decide), e 8 (by decide), e 9 (by decide), e 10 (by decide), e 11 (by decide), nvr_7, nvr_0 (j := 8) (by decide), nvr_0 (j := 9) (by decide), nvr_0 (j := 10) (by decide), nvr_0 (j := 11) (by decide)]
    omega
  · rw [e 7 (by decide), nvr_7] at hx
    rw [ec 4 (by decide), nvr_4]
    split
    · exact t.2.2.2.2.1 h0
    · exact v x (by omega)
  · rw [e 8 (by decide), e 9 (by decide), ec 5 (by decide), ec 6 (by decide), ec 7 (by decide), nvr_0 (j := 8) (by decide), nvr_0 (j := 9) (by decide), nvr_c (c := 5) (by decide) (by decide), nvr_c (c := 6) (by decide) (by decide), nvr_c (c := 7) (by decide) (by decide)]
    exact r
theorem arw_ok {w f z c : Nat} (h : okB n P) (h8 : P 0 8 < 6) (hw : w < 531441) (hz : 1 ≤ z) (hz8 : z ≤ 8) (hf : f + z ≤ c) (hc : c ≤ 8 * P 0 8 + 8) (hc2 : P 0 9 ≤ c) : okB n (up (arw w f z P) 0 9 c) := by
  obtain ⟨t, s, q, v, r⟩ := h
  have e : ∀ j, ¬ j = 9 → up (arw w f z P) 0 9 c 0 j = arw w f z P 0 j := fun j hj => up_nk hj
  have ec : ∀ k, ¬ k = 0 → up (arw w f z P) 0 9 c k = arw w f z P k := fun k hk => upc_ne hk
  have e9 : up (arw w f z P) 0 9 c 0 9 = c := up_s
  refine ⟨okT_cg (fun j hj => (e j (by omega)).trans (arw_0 (by omega))) t, ?_, ?_, ?_, fun x hx => ?_⟩
  · rw [e 4 (by decide), e 2 (by decide), e 5 (by decide), arw_0 (by decide), arw_0 (by decide), arw_0 (by decide)]; exact s
  · rw [e9, e 6 (by decide), e 7 (by decide), e 8 (by decide), e 10 (by decide), e 11 (by decide), arw_8, arw_0 (j := 6) (by decide), arw_0 (j := 7) (by decide), arw_0 (j := 10) (by decide), arw_0 (j := 11) (by decide)]
    omega
  · rw [e 7 (by decide), ec 4 (by decide), arw_0 (j := 7) (by decide), arw_c (c := 4) (by decide) (by decide) (by decide) (by decide)]
    exact v
  · rw [e 8 (by decide), arw_8] at hx
    rw [e9, ec 5 (by decide), ec 6 (by decide), ec 7 (by decide), arw_5, arw_6, arw_7]
    by_cases hxx : x = P 0 8
    · rw [if_pos hxx, if_pos hxx, if_pos hxx]
      omega
    · rw [if_neg hxx, if_neg hxx, if_neg hxx]
      have := r x (by omega)
      omega
theorem arw_cd {w f z c : Nat} (h : cdP P) : cdP (up (arw w f z P) 0 9 c) := by
  have e : ∀ j, ¬ j = 9 → up (arw w f z P) 0 9 c 0 j = arw w f z P 0 j := fun j hj => up_nk hj
  have ec : ∀ k, ¬ k = 0 → ¬ k = 5 → ¬ k = 6 → ¬ k = 7 → up (arw w f z P) 0 9 c k = P k := fun k hk h5 h6 h7 => (upc_ne hk).trans (arw_c hk h5 h6 h7)
  refine cd_same (ec 1 (by decide) (by decide) (by decide) (by decide)) (ec 2 (by decide) (by decide) (by decide) (by decide)) (ec 3 (by decide) (by decide) (by decide) (by decide)) (ec 8 (by decide) (by decide) (by decide) (by decide)) (ec 9 (by decide) (by decide) (by decide) (by decide)) ?_ ?_ ?_ ?_ h
  · rw [e 4 (by decide), arw_0 (by decide)]
  · rw [e 10 (by decide), arw_0 (by decide)]
  · rw [e 7 (by decide), arw_0 (by decide)]; omega
  · rw [e 8 (by decide), arw_8]; omega
theorem arw_dN {w f z c : Nat} : dN (up (arw w f z P) 0 9 c) = dN P := by
  simp only [dN]
  rw [upc_ne (by decide), arw_c (by decide) (by decide) (by decide) (by decide), up_nk (by decide), arw_0 (by decide)]
theorem late_ok (h : okL n P) : okL n (up P 0 11 1) := by
  obtain ⟨⟨t, s, q, v, r⟩, hc, hd⟩ := h
  have e : ∀ j, ¬ j = 11 → up P 0 11 1 0 j = P 0 j := fun j hj => up_nk hj
  have ec : ∀ k, ¬ k = 0 → up P 0 11 1 k = P k := fun k hk => upc_ne hk
  have e11 : up P 0 11 1 0 11 = 1 := up_s
  refine ⟨⟨okT_cg (fun j hj => e j (by omega)) t, ?_, ?_, ?_, ?_⟩, ?_, ?_⟩
  · rw [e 4 (by decide), e 2 (by decide), e 5 (by decide)]; exact s
  · rw [e11, e 6 (by decide), e 7 (by decide), e 8 (by decide), e 9 (by decide), e 10 (by decide)]
    omega
  · rw [e 7 (by decide), ec 4 (by decide)]; exact v
  · rw [e 8 (by decide), e 9 (by decide), ec 5 (by decide), ec 6 (by decide), ec 7 (by decide)]; exact r
  · exact cd_same (ec 1 (by decide)) (ec 2 (by decide)) (ec 3 (by decide)) (ec 8 (by decide)) (ec 9 (by decide)) (e 4 (by decide)) (e 10 (by decide)) (by rw [e 7 (by decide)]; omega) (by rw [e 8 (by decide)]; omega) hc
  · simp only [dN] at hd ⊢
    rw [ec 1 (by decide), e 4 (by decide)]
    exact hd
/-- a LINE went well -/
def linR (n : Nat) (P P' : SP) : Prop := okL n P' ∧ P 0 2 + 1 ≤ P' 0 2 ∧ P' 0 5 = P 0 5
theorem eS_L {k : Nat} (h : okB n P ∧ cdP P) (hd : dN P ≤ 1) (he : eS B n P = .ok P') : grw n (dN P + 1) 0 P P' := eS_ok h.1 h.2 hd he
theorem inS_ok (h : okL n P) (h0 : ¬ P 0 0 = 0) (hl : P 0 11 = 0) (he : inS B n P = .ok P') : linR n P P' := by
  simp only [inS] at he
  split at he
  · simp [flt] at he
  · rename_i h6
    obtain ⟨q1, _, _, he⟩ := nnS_ok he
    cases he
    have g1 := adv_grw (B := B) h.1 h.2.1 h0
    have c := h.1.2.2.1
    have e6 := g1.2.2.2.1 6 (by omega)
    have e11 := g1.2.2.2.1 11 (by omega)
    have k1 := nin_ok g1.1.1 (isNm_t q1) (by rw [e6]; omega) (by rw [e11]; exact hl)
    have k2 : cdP (up (nvr (adv B n P)) 0 6 (adv B n P 0 6 + 1)) := cd_same (upc_ne (by decide)) (upc_ne (by decide)) (upc_ne (by decide)) (upc_ne (by decide)) (upc_ne (by decide)) (up_nk (by decide)) (up_nk (by decide)) (by rw [up_nk (by decide)]; omega) (by rw [up_nk (by decide)]; omega) (nvr_cd g1.1.2)
    have k3 : dN (up (nvr (adv B n P)) 0 6 (adv B n P 0 6 + 1)) = 0 := by
      have : dN (up (nvr (adv B n P)) 0 6 (adv B n P 0 6 + 1)) = dN (nvr (adv B n P)) := by
        simp only [dN]
        rw [upc_ne (by decide), up_nk (by decide)]
      rw [this, nvr_dN, adv_dN, h.2.2]
    have k4 := adv_ge (B := B) k1
    have k5 := k1.1.1
    have e2 : up (nvr (adv B n P)) 0 6 (adv B n P 0 6 + 1) 0 2 = adv B n P 0 2 := by rw [up_nk (by decide), nvr_0 (by decide)]
    have e5 : up (nvr (adv B n P)) 0 6 (adv B n P 0 6 + 1) 0 5 = P 0 5 := by rw [up_nk (by decide), nvr_0 (by decide), adv_f (by decide)]
    rw [e2] at k5
    have := adv_ge (B := B) h.1
    have := h.1.1.2.2.1 h0
    exact ⟨⟨adv_okB k1, adv_cd k2, by rw [adv_dN]; exact k3⟩, by omega, by rw [adv_f (by decide)]; exact e5⟩
theorem rowS_ok (h : okL n P) (h0 : ¬ P 0 0 = 0) (he : rowS B n P = .ok P') : linR n P P' := by
  simp only [rowS] at he
  split at he
  · simp [flt] at he
  · rename_i h8
    obtain ⟨q1, _, _, he⟩ := nnS_ok he
    obtain ⟨q2, q3, q4, he⟩ := numS_ok he
    cases he
    have g1 := adv_grw (B := B) h.1 h.2.1 h0
    have c := h.1.2.2.1
    have g2 := adv_grw (B := B) g1.1.1 g1.1.2 (by have := isNm_t q1; omega)
    have g := grw_tr g1 g2
    generalize hP2 : adv B n (adv B n P) = P2 at g q2 q3 q4
    have e8 := g.2.2.2.1 8 (by omega)
    have e9 := g.2.2.2.1 9 (by omega)
    have e5 := g.2.2.2.1 5 (by omega)
    have hw : adv B n P 0 1 < 531441 := g1.1.1.1.2.2.2.2.1 (isNm_t q1)
    have k1 := arw_ok (w := adv B n P 0 1) (f := P2 0 9) (z := P2 0 1) (c := P2 0 9 + P2 0 1) g.1.1 (by rw [e8]; omega) hw q3 q4 (by omega) (by rw [e8, e9]; omega) (by omega)
    have k2 := arw_cd (w := adv B n P 0 1) (f := P2 0 9) (z := P2 0 1) (c := P2 0 9 + P2 0 1) g.1.2
    have k4 := adv_ge (B := B) k1
    have k5 := k1.1.1
    have e2 : up (arw (adv B n P 0 1) (P2 0 9) (P2 0 1) P2) 0 9 (P2 0 9 + P2 0 1) 0 2 = P2 0 2 := by rw [up_nk (by decide), arw_0 (by decide)]
    rw [e2] at k5
    have := g.2.2.1
    have := g.2.1
    refine ⟨⟨adv_okB k1, adv_cd k2, ?_⟩, by omega, ?_⟩
    · rw [adv_dN, arw_dN, ← hP2, adv_dN, adv_dN, h.2.2]
    · rw [adv_f (by decide), up_nk (by decide), arw_0 (by decide), e5]
theorem aliS_ok (h : okL n P) (h0 : ¬ P 0 0 = 0) (he : aliS B n P = .ok P') : linR n P P' := by
  simp only [aliS] at he
  split at he
  · simp [flt] at he
  · rename_i h8
    obtain ⟨q1, _, _, he⟩ := nnS_ok he
    split at he
    · rename_i q2
      split at he
      · rename_i r hr
        obtain ⟨q3, q4, q5, he⟩ := numS_ok he
        cases he
        have g1 := adv_grw (B := B) h.1 h.2.1 h0
        have c := h.1.2.2.1
        have g2 := adv_grw (B := B) g1.1.1 g1.1.2 (by have := isNm_t q1; omega)
        have g3 := adv_grw (B := B) g2.1.1 g2.1.2 (by have := isNm_t q2; omega)
        have g := grw_tr g1 (grw_tr g2 g3)
        have hr' := (rwO_s hr).1
        rw [g2.2.2.2.1 8 (by omega), g1.2.2.2.1 8 (by omega)] at hr'
        have hro := h.1.2.2.2.2 r hr'
        have e7 : adv B n P 7 = P 7 := adv_c (by decide)
        rw [e7] at q5
        generalize hP3 : adv B n (adv B n (adv B n P)) = P3 at g q3 q4 q5
        have e8 := g.2.2.2.1 8 (by omega)
        have e9 := g.2.2.2.1 9 (by omega)
        have e5 := g.2.2.2.1 5 (by omega)
        have c6 := g.2.2.2.2.1 6 (by omega)
        have c7 := g.2.2.2.2.1 7 (by omega)
        have hw : adv B n P 0 1 < 531441 := g1.1.1.1.2.2.2.2.1 (isNm_t q1)
        have hsame : ∀ w f z, up (arw w f z P3) 0 9 (P3 0 9) = arw w f z P3 := fun w f z => up_same (by rw [arw_0 (by decide)])
        have k1 := arw_ok (w := adv B n P 0 1) (f := P3 6 r + P3 0 1) (z := P3 7 r - P3 0 1) (c := P3 0 9) g.1.1 (by rw [e8]; omega) hw (by rw [c7]; omega) (by rw [c7]; omega) (by rw [c6, c7, e9]; omega) (by rw [e8, e9]; omega) (by omega)
        have k2 := arw_cd (w := adv B n P 0 1) (f := P3 6 r + P3 0 1) (z := P3 7 r - P3 0 1) (c := P3 0 9) g.1.2
        have k6 := arw_dN (P := P3) (w := adv B n P 0 1) (f := P3 6 r + P3 0 1) (z := P3 7 r - P3 0 1) (c := P3 0 9)
        rw [hsame] at k1 k2 k6
        have k4 := adv_ge (B := B) k1
        have k5 := k1.1.1
        rw [arw_0 (j := 2) (by decide)] at k5
        have := g.2.2.1
        have := g.2.1
        refine ⟨⟨adv_okB k1, adv_cd k2, ?_⟩, by omega, ?_⟩
        · rw [adv_dN, k6, ← hP3, adv_dN, adv_dN, adv_dN, h.2.2]
        · rw [adv_f (by decide), arw_0 (by decide), e5]
      · simp [flt] at he
    · simp [flt] at he
theorem tgS_ok {r : Nat → SP → RS} (h : okL n P) (h0 : P 0 0 = 1) (hl : P 0 11 = 1) (he : tgS P r = .ok P') : ∃ v P1, r v P1 = .ok P' ∧ okL n P1 ∧ v < P1 0 7 ∧ (∀ j, ¬ j = 7 → P1 0 j = P 0 j) := by
  simp only [tgS] at he
  split at he
  · rename_i v hv
    exact ⟨v, P, he, h, (vrO_s hv).1, fun _ _ => rfl⟩
  · split at he
    · simp [flt] at he
    · rename_i h7
      have c := h.1.2.2.1
      exact ⟨_, _, he, ⟨nvr_ok h.1 h0 (by omega) hl, nvr_cd h.2.1, by rw [nvr_dN]; exact h.2.2⟩, by rw [nvr_7]; omega, fun j hj => nvr_0 hj⟩
theorem eqS_ok {op a : Nat} (h : okB n P) (hc : cdP P) (ha : a < 10000) (hop : (op = 7 ∧ dN P = 0 ∧ a < P 0 7) ∨ (op = 8 ∧ dN P = 1 ∧ a < P 0 8)) (he : eqS B n op a P = .ok P') : linR n P P' := by
  obtain ⟨s1, he⟩ := clo_ok he
  obtain ⟨P1, e1, he⟩ := bd_ok he
  cases he
  have g1 := adv_grw (B := B) h hc (isS_0 s1)
  have g2 := eS_L (k := 0) g1.1 (by rw [adv_dN]; omega) e1
  rw [adv_dN] at g2
  have g := grw_tr g1 g2
  have e7 := g.2.2.2.1 7 (by omega)
  have e8 := g.2.2.2.1 8 (by omega)
  have g3 := grw_em (op := op) (a := a) (m := 0) (g := 0) (K' := 0) h g ha (by omega) (by
    have hd := g2.2.2.2.2.2
    simp only [dN] at hd hop
    simp only [newJ]
    rw [hd, e7, e8]
    omega) (by simp only [dlt]; rcases hop with ⟨o, d, _⟩ | ⟨o, d, _⟩ <;> rw [o, d] <;> rfl) (by omega)
  have := g.2.2.1
  have := g.2.1
  exact ⟨⟨g3.1.1, g3.1.2, g3.2.2.2.2.2⟩, by rw [em_0 (by decide)]; omega, by rw [em_0 (by decide), g.2.2.2.1 5 (by omega)]⟩
theorem linR_g {K g : Nat} {P1 P2 : SP} (h : grw n K g P P1) (h2 : linR n P1 P2) : linR n P P2 := by
  obtain ⟨a1, a2, a3⟩ := h2
  have := h.2.2.1
  have := h.2.1
  exact ⟨a1, by omega, by rw [a3, h.2.2.2.1 5 (by omega)]⟩
theorem asS_ok (h : okL n P) (h0 : P 0 0 = 1) (hl : P 0 11 = 1) (he : asS B n P = .ok P') : linR n P P' := by
  simp only [asS] at he
  have c := h.1.2.2.1
  have g1 := adv_grw (B := B) h.1 h.2.1 (by omega)
  split at he
  · rename_i r hr
    obtain ⟨s1, he⟩ := clo_ok he
    obtain ⟨P2, e2, he⟩ := bd_ok he
    obtain ⟨s2, he⟩ := clo_ok he
    have g2 := adv_grw (B := B) g1.1.1 g1.1.2 (isS_0 s1)
    have g3 := eS_L (k := 0) g2.1 (by rw [adv_dN, adv_dN, h.2.2]; omega) e2
    rw [adv_dN, adv_dN, h.2.2] at g3
    have g4 := adv_grw (B := B) g3.1.1 g3.1.2 (isS_0 s2)
    have g := grw_tr g1 (grw_tr g2 (grw_tr g3 g4))
    have hr' := (rwO_s hr).1
    exact linR_g g (eqS_ok g.1.1 g.1.2 (by omega) (Or.inr ⟨rfl, by rw [adv_dN, g3.2.2.2.2.2], by rw [g.2.2.2.1 8 (by omega)]; exact hr'⟩) he)
  · obtain ⟨v, P1, he, k1, k2, k3⟩ := tgS_ok h h0 hl he
    have g2 := adv_grw (B := B) k1.1 k1.2.1 (by rw [k3 0 (by omega)]; omega)
    have c1 := k1.1.2.2.1
    obtain ⟨a1, a2, a3⟩ := linR_g g2 (eqS_ok g2.1.1 g2.1.2 (by omega) (Or.inl ⟨rfl, by rw [adv_dN]; exact k1.2.2, by rw [g2.2.2.2.1 7 (by omega)]; exact k2⟩) he)
    exact ⟨a1, by rw [k3 2 (by omega)] at a2; exact a2, by rw [a3, k3 5 (by omega)]⟩
theorem opn_okB {k : Nat} (h : okB n P) (hb : P 0 10 < 4) : okB n (opn k P) := by
  obtain ⟨t, s, q, v, r⟩ := h
  refine ⟨okT_cg (fun j hj => opn_0 (by omega)) t, ?_, ?_, ?_, ?_⟩
  · rw [opn_0 (by decide), opn_0 (by decide), opn_0 (by decide)]; exact s
  · rw [opn_10, opn_0 (j := 6) (by decide), opn_0 (j := 7) (by decide), opn_0 (j := 8) (by decide), opn_0 (j := 9) (by decide), opn_0 (j := 11) (by decide)]
    omega
  · rw [opn_0 (j := 7) (by decide), opn_c (c := 4) (by decide) (by decide) (by decide)]; exact v
  · rw [opn_0 (j := 8) (by decide), opn_0 (j := 9) (by decide), opn_c (c := 5) (by decide) (by decide) (by decide), opn_c (c := 6) (by decide) (by decide) (by decide), opn_c (c := 7) (by decide) (by decide) (by decide)]; exact r
theorem opn_dN {k : Nat} : dN (opn k P) = dN P := by
  simp only [dN]
  rw [opn_c (by decide) (by decide) (by decide), opn_0 (by decide)]
theorem lopS_ok (h : okL n P) (h0 : P 0 0 = 1) (hl : P 0 11 = 1) (he : lopS B n P = .ok P') : linR n P P' := by
  simp only [lopS] at he
  have c := h.1.2.2.1
  split at he
  · simp [flt] at he
  · rename_i hb
    split at he
    · rename_i q1
      split at he
      · have g1 := adv_grw (B := B) h.1 h.2.1 (by omega)
        obtain ⟨v, P1, he, k1, k2, k3⟩ := tgS_ok (P := adv B n P) ⟨g1.1.1, g1.1.2, by rw [adv_dN]; exact h.2.2⟩ (isNm_t q1) (by rw [adv_f (by decide)]; exact hl) he
        obtain ⟨q2, q3, q4, he⟩ := numS_ok he
        cases he
        have g2 := adv_grw (B := B) k1.1 k1.2.1 (by rw [k3 0 (by omega)]; have := isNm_t q1; omega)
        have c1 := k1.1.2.2.1
        have e10 : adv B n P1 0 10 = P 0 10 := by rw [adv_f (by decide), k3 10 (by decide), adv_f (by decide)]
        have sl : adv B n P1 0 4 + 1 ≤ adv B n P1 0 2 := by
          have := g2.2.2.1
          have := k1.1.2.1.1
          omega
        have o1 := opn_okB (k := 0) g2.1.1 (by rw [e10]; omega)
        have o2 := em_okB (op := 10) (a := v) (m := adv B n P1 0 1) o1 (by rw [opn_0 (by decide), opn_0 (by decide)]; exact sl)
        have o3 := cd_opn (k := 0) (op := 10) (a := v) (m := adv B n P1 0 1) g2.1.2 (by rw [e10]; omega) (by omega) (by omega) (Or.inl ⟨rfl, rfl, by show dN (adv B n P1) = 0; rw [adv_dN]; exact k1.2.2, by rw [adv_f (by decide)]; exact k2, q3, q4⟩)
        have k4 := adv_ge (B := B) o2
        have k5 := o2.1.1
        rw [em_0 (j := 2) (by decide), opn_0 (j := 2) (by decide)] at k5
        have e2 := g2.2.2.1
        have e3 := g1.2.2.1
        rw [k3 2 (by decide), k3 4 (by decide)] at e2
        have e4 := g2.2.1
        rw [k3 4 (by decide)] at e4
        have e6 := g1.2.1
        refine ⟨⟨adv_okB o2, adv_cd o3, ?_⟩, by omega, ?_⟩
        · rw [adv_dN, em_dN, opn_dN, adv_dN, k1.2.2]; rfl
        · rw [adv_f (by decide), em_0 (by decide), opn_0 (by decide), adv_f (by decide), k3 5 (by decide), adv_f (by decide)]
      · simp [flt] at he
    · simp [flt] at he
theorem ifC_ok {t : Nat} (h : okB n P) (hc : cdP P) (h0 : ¬ P 0 0 = 0) (hd : dN P = 1) (hb : P 0 10 < 4) (ht : t = 12 ∨ t = 13) (he : ifC B n t P = .ok P') : linR n P P' := by
  obtain ⟨P2, e2, he⟩ := bd_ok he
  cases he
  have g1 := adv_grw (B := B) h hc h0
  have g2 := eS_L (k := 0) g1.1 (by rw [adv_dN]; omega) e2
  rw [adv_dN, hd] at g2
  have g := grw_tr g1 g2
  have e10 := g.2.2.2.1 10 (by omega)
  have e5 := g.2.2.2.1 5 (by omega)
  have s1 := g.2.2.1
  have s2 := g.2.1
  have s3 := h.2.1.1
  have o1 := opn_okB (k := 1) g.1.1 (by rw [e10]; exact hb)
  have o2 := em_okB (op := t) (a := 0) (m := 0) o1 (by rw [opn_0 (by decide), opn_0 (by decide)]; omega)
  have o3 := cd_opn (k := 1) (op := t) (a := 0) (m := 0) g.1.2 (by rw [e10]; exact hb) (by omega) (by omega) (Or.inr ⟨rfl, ht, g2.2.2.2.2.2⟩)
  refine ⟨⟨o2, o3, ?_⟩, by rw [em_0 (by decide), opn_0 (by decide)]; omega, by rw [em_0 (by decide), opn_0 (by decide), e5]⟩
  rw [em_dN, opn_dN, g2.2.2.2.2.2]
  rcases ht with rfl | rfl <;> rfl
theorem ifS_ok (h : okL n P) (h0 : ¬ P 0 0 = 0) (he : ifS B n P = .ok P') : linR n P P' := by
  simp only [ifS] at he
  have c := h.1.2.2.1
  split at he
  · simp [flt] at he
  · rename_i hb
    obtain ⟨P1, e1, he⟩ := bd_ok he
    have g1 := adv_grw (B := B) h.1 h.2.1 h0
    have g2 := eS_L (k := 0) g1.1 (by rw [adv_dN, h.2.2]; omega) e1
    rw [adv_dN, h.2.2] at g2
    have g := grw_tr g1 g2
    have e10 := g.2.2.2.1 10 (by omega)
    split at he
    · rename_i s
      exact linR_g g (ifC_ok g.1.1 g.1.2 (isS_0 s) g2.2.2.2.2.2 (by rw [e10]; omega) (Or.inl rfl) he)
    · obtain ⟨s, he⟩ := clo_ok he
      exact linR_g g (ifC_ok g.1.1 g.1.2 (isS_0 s) g2.2.2.2.2.2 (by rw [e10]; omega) (Or.inr rfl) he)
theorem outS_ok (h : okL n P) (h0 : ¬ P 0 0 = 0) (he : outS B n P = .ok P') : linR n P P' := by
  obtain ⟨P1, e1, he⟩ := bd_ok he
  cases he
  have g1 := adv_grw (B := B) h.1 h.2.1 h0
  have g2 := eS_L (k := 0) g1.1 (by rw [adv_dN, h.2.2]; omega) e1
  rw [adv_dN, h.2.2] at g2
  have g := grw_tr g1 g2
  have g3 := grw_em (op := 9) (a := 0) (m := 0) (g := 0) (K' := 0) h.1 g (by omega) (by omega) (Or.inr (Or.inr (Or.inr (Or.inr (Or.inr (Or.inr ⟨rfl, g2.2.2.2.2.2⟩)))))) rfl (by omega)
  have := g.2.2.1
  have := g.2.1
  exact ⟨⟨g3.1.1, g3.1.2, g3.2.2.2.2.2⟩, by rw [em_0 (by decide)]; omega, by rw [em_0 (by decide), g.2.2.2.1 5 (by omega)]⟩
theorem pat_okB {i : Nat} (h : okB n P) : okB n (pat i P) := by
  simp only [okB, pat]
  rw [upc_ne (c := 0) (by decide), upc_ne (c := 4) (by decide), upc_ne (c := 5) (by decide), upc_ne (c := 6) (by decide), upc_ne (c := 7) (by decide)]
  exact h
theorem pat_dN {i : Nat} : dN (pat i P) = dN P := by
  simp only [dN, pat]
  rw [upc_ne (c := 1) (by decide), upc_ne (c := 0) (by decide)]
theorem elsS_ok (h : okL n P) (hn : n ≤ 900) (h0 : ¬ P 0 0 = 0) (he : elsS B n P = .ok P') : linR n P P' := by
  simp only [elsS] at he
  have t := h.1.1
  have t3 := t.2.2.1 h0
  have t2 := t.2.1
  have s := h.1.2.1.1
  split at he
  · simp [flt] at he
  · rename_i hb
    split at he
    · rename_i hk
      cases he
      have o3 := cd_els h.2.1 (by omega) (by omega) hk h.2.2
      have r : ∀ c, ¬ c = 8 → ¬ c = 9 → up (up P 8 (P 0 10 - 1) 2) 9 (P 0 10 - 1) (P 0 4) c = P c := fun c h h2 => by rw [upc_ne h2, upc_ne h]
      generalize up (up P 8 (P 0 10 - 1) 2) 9 (P 0 10 - 1) (P 0 4) = P0 at o3 r ⊢
      have o0 : okB n P0 := by
        simp only [okB]
        rw [r 0 (by decide) (by decide), r 4 (by decide) (by decide), r 5 (by decide) (by decide), r 6 (by decide) (by decide), r 7 (by decide) (by decide)]
        exact h.1
      have d0 : dN P0 = 0 := by
        simp only [dN]
        rw [r 0 (by decide) (by decide), r 1 (by decide) (by decide)]
        exact h.2.2
      refine ⟨⟨?_, adv_cd o3, ?_⟩, ?_, ?_⟩
      · have hpp : pat (P 9 (P 0 10 - 1)) (em 14 0 0 P0) = em 14 0 0 (pat (P 9 (P 0 10 - 1)) (em 14 0 0 P0)) ∨ True := Or.inr trivial
        have e0 : ∀ j, ¬ j = 4 → pat (P 9 (P 0 10 - 1)) (em 14 0 0 P0) 0 j = P 0 j := fun j hj => by rw [pat, up_na (by decide), em_0 hj, r 0 (by decide) (by decide)]
        have e4 : pat (P 9 (P 0 10 - 1)) (em 14 0 0 P0) 0 4 = P 0 4 + 1 := by rw [pat, up_na (by decide), em_4, r 0 (by decide) (by decide)]
        have ec : ∀ c, 4 ≤ c → ¬ c = 8 → ¬ c = 9 → pat (P 9 (P 0 10 - 1)) (em 14 0 0 P0) c = P c := fun c hc h8 h9 => by rw [pat, upc_ne (by omega), em_c hc, r c h8 h9]
        generalize pat (P 9 (P 0 10 - 1)) (em 14 0 0 P0) = P5 at e0 e4 ec
        obtain ⟨tt, ss, q, v, rr⟩ := h.1
        obtain ⟨g1, g2⟩ := tkF_ok (B := B) (n := n) (p := P 0 3) tt.2.1
        have a2 : adv B n P5 0 2 = tkF B n (P 0 3) 2 := by rw [adv_t (by decide), e0 3 (by decide)]
        refine ⟨okT_cg (fun j hj => by rw [adv_t hj, e0 3 (by decide)]) g1, ?_, ?_, ?_, ?_⟩
        · rw [a2, adv_f (by decide), adv_f (by decide), e4, e0 5 (by decide)]
          omega
        · rw [adv_f (by decide), adv_f (by decide), adv_f (by decide), adv_f (by decide), adv_f (by decide), adv_f (by decide), e0 6 (by decide), e0 7 (by decide), e0 8 (by decide), e0 9 (by decide), e0 10 (by decide), e0 11 (by decide)]
          exact q
        · rw [adv_f (by decide), adv_c (by decide), e0 7 (by decide), ec 4 (by decide) (by decide) (by decide)]
          exact v
        · rw [adv_f (by decide), adv_f (by decide), adv_c (by decide), adv_c (by decide), adv_c (by decide), e0 8 (by decide), e0 9 (by decide), ec 5 (by decide) (by decide) (by decide), ec 6 (by decide) (by decide) (by decide), ec 7 (by decide) (by decide) (by decide)]
          exact rr
      · rw [adv_dN, pat_dN, em_dN, d0]; rfl
      · have e3 : pat (P 9 (P 0 10 - 1)) (em 14 0 0 P0) 0 3 = P 0 3 := by rw [pat, up_na (by decide), em_0 (by decide), r 0 (by decide) (by decide)]
        rw [adv_t (by decide), e3]
        have := (tkF_ok (B := B) (n := n) (p := P 0 3) t2).2
        omega
      · rw [adv_f (by decide), pat, up_na (by decide), em_0 (by decide), r 0 (by decide) (by decide)]
    · simp [flt] at he
theorem endS_ok (h : okL n P) (hn : n ≤ 900) (h0 : ¬ P 0 0 = 0) (he : endS B n P = .ok P') : linR n P P' := by
  simp only [endS] at he
  have t := h.1.1
  have t3 := t.2.2.1 h0
  have t2 := t.2.1
  have s := h.1.2.1.1
  obtain ⟨tt, ss, q, v, rr⟩ := h.1
  obtain ⟨g1, g2⟩ := tkF_ok (B := B) (n := n) (p := P 0 3) tt.2.1
  have gen : ∀ P5 : SP, (∀ j, ¬ j = 4 → ¬ j = 10 → P5 0 j = P 0 j) → P5 0 4 ≤ P 0 4 + 1 → P5 0 10 ≤ 4 → (∀ c, 4 ≤ c → P5 c = P c) → cdP P5 → dN P5 = 0 → linR n P (adv B n P5) := by
    intro P5 e0 e4 e10 ec hc hd
    have a2 : adv B n P5 0 2 = tkF B n (P 0 3) 2 := by rw [adv_t (by decide), e0 3 (by decide) (by decide)]
    refine ⟨⟨⟨okT_cg (fun j hj => by rw [adv_t hj, e0 3 (by decide) (by decide)]) g1, ?_, ?_, ?_, ?_⟩, adv_cd hc, by rw [adv_dN]; exact hd⟩, by rw [a2]; omega, by rw [adv_f (by decide), e0 5 (by decide) (by decide)]⟩
    · rw [a2, adv_f (by decide), adv_f (by decide), e0 5 (by decide) (by decide)]
      omega
    · rw [adv_f (by decide), adv_f (by decide), adv_f (by decide), adv_f (by decide), adv_f (by decide), adv_f (by decide), e0 6 (by decide) (by decide), e0 7 (by decide) (by decide), e0 8 (by decide) (by decide), e0 9 (by decide) (by decide), e0 11 (by decide) (by decide)]
      omega
    · rw [adv_f (by decide), adv_c (by decide), e0 7 (by decide) (by decide), ec 4 (by decide)]
      exact v
    · rw [adv_f (by decide), adv_f (by decide), adv_c (by decide), adv_c (by decide), adv_c (by decide), e0 8 (by decide) (by decide), e0 9 (by decide) (by decide), ec 5 (by decide), ec 6 (by decide), ec 7 (by decide)]
      exact rr
  have u1 : up P 0 10 (P 0 10 - 1) 1 = P 1 := upc_ne (by decide)
  have u4 : up P 0 10 (P 0 10 - 1) 0 4 = P 0 4 := up_nk (by decide)
  have ud : dN (up P 0 10 (P 0 10 - 1)) = 0 := by
    simp only [dN]
    rw [u1, u4]
    exact h.2.2
  split at he
  · simp [flt] at he
  · rename_i hb
    split at he
    · rename_i hk
      cases he
      refine gen _ (fun j h1 h2 => by rw [em_0 h1, up_nk h2]) (by rw [em_4, u4]; omega) (by rw [em_0 (by decide), up_s]; omega) (fun c hc => by rw [em_c hc, upc_ne (by omega)]) (cd_endL h.2.1 (by omega) (by omega) hk h.2.2) ?_
      rw [em_dN, ud]; rfl
    · rename_i hk
      cases he
      refine gen _ (fun j h1 h2 => by rw [pat, up_na (by decide), up_nk h2]) (by rw [pat, up_na (by decide), u4]; omega) (by rw [pat, up_na (by decide), up_s]; omega) (fun c hc => by rw [pat, upc_ne (by omega), upc_ne (by omega)]) (cd_endI h.2.1 (by omega) (by omega) hk h.2.2) ?_
      rw [pat_dN, ud]
theorem ltS_ok {r : RS} (he : ltS P r = .ok P') : P 0 11 = 0 ∧ r = .ok P' := by
  simp only [ltS] at he
  split at he
  · rename_i h
    exact ⟨h, he⟩
  · simp [flt] at he
theorem linR_l (h : linR n (up P 0 11 1) P') : linR n P P' := by
  obtain ⟨a1, a2, a3⟩ := h
  rw [up_nk (by decide)] at a2 a3
  exact ⟨a1, a2, a3⟩
theorem lnS_ok (h : okL n P) (hn : n ≤ 900) (h0 : ¬ P 0 0 = 0) (he : lnS B n P = .ok P') : linR n P P' := by
  have hl := late_ok h
  have hl0 : up P 0 11 1 0 0 = P 0 0 := up_nk (by decide)
  have hl1 : up P 0 11 1 0 11 = 1 := up_s
  simp only [lnS] at he
  split at he
  · obtain ⟨_, he⟩ := ltS_ok he
    exact aliS_ok h h0 he
  · split at he
    · rename_i hk
      split at he
      · obtain ⟨q, he⟩ := ltS_ok he
        exact inS_ok h h0 q he
      · split at he
        · obtain ⟨_, he⟩ := ltS_ok he
          exact rowS_ok h h0 he
        · split at he
          · exact linR_l (lopS_ok hl (by rw [hl0]; exact hk) hl1 he)
          · split at he
            · exact linR_l (ifS_ok hl (by rw [hl0]; exact h0) he)
            · split at he
              · exact linR_l (elsS_ok hl hn (by rw [hl0]; exact h0) he)
              · split at he
                · exact linR_l (endS_ok hl hn (by rw [hl0]; exact h0) he)
                · split at he
                  · exact linR_l (outS_ok hl (by rw [hl0]; exact h0) he)
                  · exact linR_l (asS_ok hl (by rw [hl0]; exact hk) hl1 he)
    · simp [flt] at he
/-- behind a LINE's ; -/
theorem nxt_ok (h : okL n P) (hs : isS 59 P = true) : okL n (up (adv B n P) 0 5 (P 0 5 + 1)) ∧ P 0 2 + 1 ≤ up (adv B n P) 0 5 (P 0 5 + 1) 0 2 := by
  have g := adv_grw (B := B) h.1 h.2.1 (isS_0 hs)
  have e : ∀ j, ¬ j = 5 → up (adv B n P) 0 5 (P 0 5 + 1) 0 j = adv B n P 0 j := fun j hj => up_nk hj
  have ec : ∀ c, ¬ c = 0 → up (adv B n P) 0 5 (P 0 5 + 1) c = adv B n P c := fun c hc => upc_ne hc
  have s := g.2.2.1
  have s1 := g.2.1
  have s2 := h.1.2.1
  have e5 : up (adv B n P) 0 5 (P 0 5 + 1) 0 5 = P 0 5 + 1 := up_s
  obtain ⟨tt, ss, q, v, rr⟩ := g.1.1
  refine ⟨⟨⟨okT_cg (fun j hj => e j (by omega)) tt, ?_, ?_, ?_, ?_⟩, ?_, ?_⟩, by rw [e 2 (by decide)]; omega⟩
  · rw [e 4 (by decide), e 2 (by decide), e5]
    omega
  · rw [e 6 (by decide), e 7 (by decide), e 8 (by decide), e 9 (by decide), e 10 (by decide), e 11 (by decide)]; exact q
  · rw [e 7 (by decide), ec 4 (by decide)]; exact v
  · rw [e 8 (by decide), e 9 (by decide), ec 5 (by decide), ec 6 (by decide), ec 7 (by decide)]; exact rr
  · exact cd_same (ec 1 (by decide)) (ec 2 (by decide)) (ec 3 (by decide)) (ec 8 (by decide)) (ec 9 (by decide)) (e 4 (by decide)) (e 10 (by decide)) (by rw [e 7 (by decide)]; omega) (by rw [e 8 (by decide)]; omega) g.1.2
  · have : dN (up (adv B n P) 0 5 (P 0 5 + 1)) = dN (adv B n P) := by
      simp only [dN]
      rw [ec 1 (by decide), e 4 (by decide)]
    rw [this, adv_dN, h.2.2]
theorem lsS_ok (hn : n ≤ 900) : ∀ (m : Nat) (P P' : SP), okL n P → 900 < m + P 0 2 → lsS B n m P = .ok P' → okL n P' ∧ P' 0 10 = 0
  | 0, P, P', h, hm, he => by
    have := h.1.1.1
    have := h.1.1.2.1
    omega
  | m + 1, P, P', h, hm, he => by
    simp only [lsS] at he
    split at he
    · split at he
      · rename_i hb
        cases he
        exact ⟨h, hb⟩
      · simp [flt] at he
    · rename_i h0
      obtain ⟨P1, e1, he⟩ := bd_ok he
      obtain ⟨s, he⟩ := clo_ok he
      have l := lnS_ok h hn h0 e1
      obtain ⟨k1, k2⟩ := nxt_ok (B := B) l.1 s
      have := l.2.1
      exact lsS_ok hn m _ _ k1 (by omega) he
theorem beg_ok : okL n (adv B n (fun _ _ => 0)) := by
  have h0 : okB n (fun _ _ => 0 : SP) := by
    refine ⟨⟨Nat.zero_le _, Nat.zero_le _, fun h => absurd rfl h, fun _ => Nat.zero_le _, fun _ => by decide, fun _ => by decide, by decide⟩, by decide, by decide, fun v hv => absurd hv (Nat.not_lt_zero _), fun v hv => absurd hv (Nat.not_lt_zero _)⟩
  have c0 : cdP (fun _ _ => 0 : SP) := by
    refine ⟨fun i hi => absurd hi (Nat.not_lt_zero _), fun i hi => ?_, rfl, fun b hb => absurd hb (Nat.not_lt_zero _)⟩
    have : i = 0 := Nat.le_zero.mp hi
    subst this
    exact ⟨by decide, by decide, fun x hx => by cases hx⟩
  exact ⟨adv_okB h0, adv_cd c0, by rw [adv_dN]; rfl⟩
theorem paS_ok (hn : n ≤ 900) (he : paS B n = .ok P') : okL n P' ∧ P' 0 10 = 0 := lsS_ok hn 901 _ _ beg_ok (by omega) he
/-- the program -/
def GP (P : SP) : SP := fun c j => if c = 0 then P 1 j else if c = 1 then P 2 j else if c = 2 then P 3 j else if c = 3 then (if j = 0 then P 0 4 else if j = 1 then P 0 5 else if j = 2 then P 0 6 else if j = 3 then P 0 7 else if j = 4 then P 0 8 else P 0 9) else if c = 4 then P 6 j else P 7 j
theorem wf_P (hn : n ≤ 900) (h : okL n P) (hb : P 0 10 = 0) : wfG (GP P) (dpF (P 1)) (nlF (P 1)) := by
  obtain ⟨⟨t, s, q, v, r⟩, ⟨c1, c2, c3, c4⟩, hd⟩ := h
  have t1 := t.1
  have t2 := t.2.1
  have dS : ∀ i, dpF (P 1) (i + 1) = dlt (P 1 i) (dpF (P 1) i) := fun i => rfl
  have nS : ∀ i, nlF (P 1) (i + 1) = if P 1 i = 10 then i :: nlF (P 1) i else if P 1 i = 11 then (nlF (P 1) i).tail else nlF (P 1) i := fun i => rfl
  refine ⟨fun i hi => ?_, fun i hi => ?_, rfl, rfl, ?_, ?_, ?_, ?_, ?_, ?_, ?_, ?_⟩
  · have hi : i < P 0 4 := hi
    obtain ⟨a1, a2, a3, a4⟩ := c1 i hi
    have a4 : tgO P i := by
      rcases a4 with a4 | ⟨b, hb', _⟩
      · exact a4
      · omega
    show wfI (GP P) (dpF (P 1)) (nlF (P 1)) i
    have G0 : ∀ j, GP P 0 j = P 1 j := fun _ => rfl
    have G1 : ∀ j, GP P 1 j = P 2 j := fun _ => rfl
    have G2 : ∀ j, GP P 2 j = P 3 j := fun _ => rfl
    have G30 : GP P 3 0 = P 0 4 := rfl
    have G33 : GP P 3 3 = P 0 7 := rfl
    have G34 : GP P 3 4 = P 0 8 := rfl
    simp only [wfI, G0, G1, G2, G30, G33, G34, dS, nS]
    have dl : ∀ op D, dlt op D = if op ≤ 1 then D + 1 else if op = 2 then D else if op ≤ 7 then D - 1 else if op = 8 then D - 2 else if op = 9 then D - 1 else if op = 12 ∨ op = 13 then D - 2 else D := fun _ _ => rfl
    rcases a1 with ⟨o, p⟩ | ⟨o, p⟩ | ⟨o, p⟩ | ⟨o, o', p⟩ | ⟨o, p⟩ | ⟨o, p⟩ | ⟨o, p⟩ | ⟨o, p⟩ | ⟨o, p, l, p2, p3, p4, p5, p6⟩ | ⟨o, p⟩ | ⟨o, p⟩
    · refine Or.inl ⟨o, ?_, p, ?_⟩
      · rw [o]; rfl
      · rw [if_neg (by omega), if_neg (by omega)]
    · refine Or.inr (Or.inl ⟨o, ?_, p, ?_⟩)
      · rw [o]; rfl
      · rw [if_neg (by omega), if_neg (by omega)]
    · refine Or.inr (Or.inr (Or.inl ⟨o, p.1, ?_, p.2, ?_⟩))
      · rw [o]; rfl
      · rw [if_neg (by omega), if_neg (by omega)]
    · refine Or.inr (Or.inr (Or.inr (Or.inl ⟨o, o', p, ?_, ?_⟩)))
      · rw [dl, if_neg (by omega), if_neg (by omega), if_pos (by omega)]; omega
      · rw [if_neg (by omega), if_neg (by omega)]
    · refine Or.inr (Or.inr (Or.inr (Or.inr (Or.inl ⟨o, p.1, ?_, p.2, ?_⟩))))
      · rw [o, p.1]; rfl
      · rw [if_neg (by omega), if_neg (by omega)]
    · refine Or.inr (Or.inr (Or.inr (Or.inr (Or.inr (Or.inl ⟨o, p.1, ?_, p.2, ?_⟩)))))
      · rw [o, p.1]; rfl
      · rw [if_neg (by omega), if_neg (by omega)]
    · refine Or.inr (Or.inr (Or.inr (Or.inr (Or.inr (Or.inr (Or.inl ⟨o, p, ?_, ?_⟩))))))
      · rw [o, p]; rfl
      · rw [if_neg (by omega), if_neg (by omega)]
    · refine Or.inr (Or.inr (Or.inr (Or.inr (Or.inr (Or.inr (Or.inr (Or.inl ⟨o, p.1, ?_, p.2.1, ?_, p.2.2.1, p.2.2.2⟩)))))))
      · rw [o, p.1]; rfl
      · rw [if_pos o]
    · refine Or.inr (Or.inr (Or.inr (Or.inr (Or.inr (Or.inr (Or.inr (Or.inr (Or.inl ⟨o, p, ?_, l, p2, p3, p4, ?_, ?_, ?_⟩))))))))
      · rw [o, p]; rfl
      · rw [if_neg (by omega), if_pos o, p6]; rfl
      · rw [if_pos p4, p6]
      · rw [p4, p5]; rfl
    · obtain ⟨b1, b2, b3⟩ := a4 (by omega)
      refine Or.inr (Or.inr (Or.inr (Or.inr (Or.inr (Or.inr (Or.inr (Or.inr (Or.inr (Or.inl ⟨o, p, ?_, b1, b2, b3, ?_⟩)))))))))
      · rw [p]
        rcases o with o | o <;> rw [o] <;> rfl
      · rw [if_neg (by omega), if_neg (by omega)]
    · obtain ⟨b1, b2, b3⟩ := a4 (by omega)
      refine Or.inr (Or.inr (Or.inr (Or.inr (Or.inr (Or.inr (Or.inr (Or.inr (Or.inr (Or.inr ⟨o, p, ?_, b1, b2, b3, ?_⟩)))))))))
      · rw [o, p]; rfl
      · rw [if_neg (by omega), if_neg (by omega)]
  · have hi : i ≤ P 0 4 := hi
    obtain ⟨a1, a2, a3⟩ := c2 i hi
    refine ⟨a1, a2, fun x hx => ?_⟩
    have := a3 x hx
    exact ⟨this.1, by show x < P 0 4; omega, this.2⟩
  · show P 0 4 ≤ 900; omega
  · show P 0 6 ≤ 4; omega
  · show P 0 6 ≤ P 0 7; omega
  · show P 0 7 ≤ 8; omega
  · show P 0 8 ≤ 6; omega
  · show P 0 9 ≤ 48; omega
  · intro x hx
    have := r x hx
    show P 6 x + P 7 x ≤ P 0 9
    omega
  · intro i hi
    have := c1 i hi
    exact ⟨this.2.1, this.2.2.1⟩
end PL
