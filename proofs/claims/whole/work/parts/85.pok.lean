/-! what holds while a TEXT is read -/
def okB (n : Nat) (P : SP) : Prop :=
  okT n (P 0) ∧ (P 0 4 ≤ P 0 2 ∧ P 0 5 ≤ P 0 2)
  ∧ (P 0 6 ≤ 4 ∧ P 0 6 ≤ P 0 7 ∧ P 0 7 ≤ 8 ∧ P 0 8 ≤ 6 ∧ P 0 9 ≤ 8 * P 0 8 ∧ P 0 10 ≤ 4 ∧ P 0 11 ≤ 1 ∧ (P 0 11 = 0 → P 0 7 = P 0 6))
  ∧ (∀ v, v < P 0 7 → P 4 v < 531441) ∧ (∀ r, r < P 0 8 → P 5 r < 531441 ∧ 1 ≤ P 7 r ∧ P 6 r + P 7 r ≤ P 0 9 ∧ P 7 r ≤ 8)
theorem okT_cg {n : Nat} {t t' : Nat → Nat} (h : ∀ j, j < 4 → t' j = t j) (ho : okT n t) : okT n t' := by
  simp only [okT, h 0 (by omega), h 1 (by omega), h 2 (by omega), h 3 (by omega)]
  exact ho
def dN (P : SP) : Nat := dpF (P 1) (P 0 4)
/-- P has grown to P': K deep now, g bytes more than instructions -/
def grw (n K g : Nat) (P P' : SP) : Prop := (okB n P' ∧ cdP P') ∧ P 0 4 ≤ P' 0 4 ∧ P' 0 4 + P 0 2 + g ≤ P' 0 2 + P 0 4 ∧ (∀ j, 5 ≤ j → P' 0 j = P 0 j) ∧ (∀ c, 4 ≤ c → P' c = P c) ∧ dN P' = K
theorem grw_tr {n K K' g g' : Nat} {P P1 P2 : SP} (h : grw n K g P P1) (h' : grw n K' g' P1 P2) : grw n K' (g + g') P P2 := by
  obtain ⟨_, a2, a3, a4, a5, _⟩ := h
  obtain ⟨b1, b2, b3, b4, b5, b6⟩ := h'
  exact ⟨b1, by omega, by omega, fun j hj => (b4 j hj).trans (a4 j hj), fun c hc => (b5 c hc).trans (a5 c hc), b6⟩
theorem grw_le {n K g g' : Nat} {P P' : SP} (hg : g' ≤ g) (h : grw n K g P P') : grw n K g' P P' := by
  obtain ⟨b1, b2, b3, b4⟩ := h
  exact ⟨b1, b2, by omega, b4⟩
theorem grw_rf {n : Nat} {P : SP} (h1 : okB n P) (h2 : cdP P) : grw n (dN P) 0 P P := ⟨⟨h1, h2⟩, Nat.le_refl _, by omega, fun _ _ => rfl, fun _ _ => rfl, rfl⟩
theorem adv_okB {B : Nat → Nat} {n : Nat} {P : SP} (h : okB n P) : okB n (adv B n P) := by
  obtain ⟨t, ⟨s1, s2⟩, c, v, r⟩ := h
  obtain ⟨g1, g2⟩ := tkF_ok (B := B) (n := n) (p := P 0 3) t.2.1
  have ht := t.1
  have e2 : adv B n P 0 2 = tkF B n (P 0 3) 2 := adv_t (by decide)
  refine ⟨okT_cg (fun j hj => adv_t hj) g1, ?_, ?_, ?_, ?_⟩
  · rw [e2, adv_f (by decide), adv_f (by decide)]
    omega
  · rw [adv_f (by decide), adv_f (by decide), adv_f (by decide), adv_f (by decide), adv_f (by decide), adv_f (by decide)]
    exact c
  · rw [adv_f (by decide), adv_c (by decide)]
    exact v
  · rw [adv_f (by decide), adv_f (by decide), adv_c (by decide), adv_c (by decide), adv_c (by decide)]
    exact r
theorem adv_cd {B : Nat → Nat} {n : Nat} {P : SP} (h : cdP P) : cdP (adv B n P) := cd_same (adv_c (by decide)) (adv_c (by decide)) (adv_c (by decide)) (adv_c (by decide)) (adv_c (by decide)) (adv_f (by decide)) (adv_f (by decide)) (by rw [adv_f (by decide)]; omega) (by rw [adv_f (by decide)]; omega) h
theorem adv_dN {B : Nat → Nat} {n : Nat} {P : SP} : dN (adv B n P) = dN P := by
  simp only [dN]
  rw [adv_c (by decide), adv_f (by decide)]
theorem adv_ge {B : Nat → Nat} {n : Nat} {P : SP} (h : okB n P) : P 0 3 ≤ adv B n P 0 2 := by
  rw [adv_t (by decide)]
  exact (tkF_ok (B := B) (n := n) (p := P 0 3) h.1.2.1).2
theorem adv_grw {B : Nat → Nat} {n : Nat} {P : SP} (h1 : okB n P) (h2 : cdP P) (h0 : ¬ P 0 0 = 0) : grw n (dN P) 1 P (adv B n P) := by
  have := adv_ge (B := B) h1
  have := h1.1.2.2.1 h0
  refine ⟨⟨adv_okB h1, adv_cd h2⟩, by rw [adv_f (by decide)]; omega, by rw [adv_f (by decide)]; omega, fun j hj => adv_f (by omega), fun c hc => adv_c (by omega), adv_dN⟩
theorem em_okB {n op a m : Nat} {P : SP} (h : okB n P) (hs : P 0 4 + 1 ≤ P 0 2) : okB n (em op a m P) := by
  obtain ⟨t, ⟨s1, s2⟩, c, v, r⟩ := h
  refine ⟨okT_cg (fun j hj => em_0 (by omega)) t, ?_, ?_, ?_, ?_⟩
  · rw [em_4, em_0 (by decide), em_0 (by decide)]
    omega
  · rw [em_0 (by decide), em_0 (by decide), em_0 (by decide), em_0 (by decide), em_0 (by decide), em_0 (by decide)]
    exact c
  · rw [em_0 (by decide), em_c (by decide)]
    exact v
  · rw [em_0 (by decide), em_0 (by decide), em_c (by decide), em_c (by decide), em_c (by decide)]
    exact r
theorem em_dN {op a m : Nat} {P : SP} : dN (em op a m P) = dlt op (dN P) := by
  simp only [dN]
  rw [em_4, em_dp]
theorem grw_em {n K K' g op a m : Nat} {P P1 : SP} (h0 : okB n P) (h : grw n K (g + 1) P P1) (ha : a < 10000) (hm : m < 64) (hn : newJ P1 op a) (hK : dlt op K = K') (hK2 : K' ≤ 40) : grw n K' g P (em op a m P1) := by
  obtain ⟨⟨b1, b1'⟩, b2, b3, b4, b5, b6⟩ := h
  have := h0.2.1.1
  refine ⟨⟨em_okB b1 (by omega), cd_em b1' ha hm (by rw [show dpF (P1 1) (P1 0 4) = K from b6, hK]; exact hK2) hn⟩, by rw [em_4]; omega, by rw [em_4, em_0 (by decide)]; omega, fun j hj => (em_0 (by omega)).trans (b4 j hj), fun c hc => (em_c hc).trans (b5 c hc), by rw [em_dN, b6, hK]⟩
def FOK (n b : Nat) (F : SP → RS) : Prop := ∀ P P', okB n P → cdP P → dN P ≤ b → F P = .ok P' → grw n (dN P + 1) 0 P P'
theorem isS_0 {c : Nat} {P : SP} (h : isS c P = true) : ¬ P 0 0 = 0 := by
  have := (isS_t h).1
  omega
section PK
variable {B : Nat → Nat} {n b : Nat} {F : SP → RS}
theorem prL_ok (hF : FOK n b F) (hb : b ≤ 30) : ∀ (m : Nat) (P P' : SP), okB n P → cdP P → 1 ≤ dN P → dN P ≤ b → prL B n F m P = .ok P' → grw n (dN P) 0 P P'
  | 0, P, P', h1, h2, _, _, h => by
    simp only [prL] at h
    cases h
    exact grw_rf h1 h2
  | m + 1, P, P', h1, h2, h3, h4, h => by
    simp only [prL] at h
    have step : ∀ op, 3 ≤ op → op ≤ 6 → ¬ P 0 0 = 0 → bd (F (adv B n P)) (fun P1 => prL B n F m (em op 0 0 P1)) = .ok P' → grw n (dN P) 0 P P' := by
      intro op o1 o2 h0 h
      obtain ⟨P1, e1, e2⟩ := bd_ok h
      have g1 := adv_grw (B := B) h1 h2 h0
      have g2 := hF _ _ g1.1.1 g1.1.2 (by rw [adv_dN]; exact h4) e1
      rw [adv_dN] at g2
      have g3 := grw_em (op := op) (a := 0) (m := 0) (K' := dN P) h1 (grw_le (g' := 0 + 1) (by omega) (grw_tr g1 g2)) (by omega) (by omega) (Or.inr (Or.inr (Or.inr (Or.inl ⟨o1, o2, by show 2 ≤ dN P1; rw [g2.2.2.2.2.2]; omega⟩)))) (by simp only [dlt]; rw [if_neg (by omega), if_neg (by omega), if_pos (by omega)]; omega) (by omega)
      have g4 := prL_ok hF hb m _ _ g3.1.1 g3.1.2 (by rw [g3.2.2.2.2.2]; exact h3) (by rw [g3.2.2.2.2.2]; exact h4) e2
      rw [g3.2.2.2.2.2] at g4
      exact grw_tr g3 g4
    split at h
    · rename_i hs
      exact step 5 (by omega) (by omega) (isS_0 hs) h
    · split at h
      · rename_i hs
        exact step 6 (by omega) (by omega) (isS_0 hs) h
      · cases h
        exact grw_rf h1 h2
theorem smL_ok (hF : FOK n b F) (hb : b ≤ 30) : ∀ (m : Nat) (P P' : SP), okB n P → cdP P → 1 ≤ dN P → dN P + 1 ≤ b → smL B n F m P = .ok P' → grw n (dN P) 0 P P'
  | 0, P, P', h1, h2, _, _, h => by
    simp only [smL] at h
    cases h
    exact grw_rf h1 h2
  | m + 1, P, P', h1, h2, h3, h4, h => by
    simp only [smL] at h
    have step : ∀ op, 3 ≤ op → op ≤ 6 → ¬ P 0 0 = 0 → bd (F (adv B n P)) (fun P1 => bd (prL B n F 901 P1) (fun P2 => smL B n F m (em op 0 0 P2))) = .ok P' → grw n (dN P) 0 P P' := by
      intro op o1 o2 h0 h
      obtain ⟨P1, e1, e2⟩ := bd_ok h
      obtain ⟨P2, e2, e3⟩ := bd_ok e2
      have g1 := adv_grw (B := B) h1 h2 h0
      have g2 := hF _ _ g1.1.1 g1.1.2 (by rw [adv_dN]; omega) e1
      rw [adv_dN] at g2
      have d1 := g2.2.2.2.2.2
      have g2' := prL_ok hF hb 901 _ _ g2.1.1 g2.1.2 (by rw [d1]; omega) (by rw [d1]; omega) e2
      rw [d1] at g2'
      have g3 := grw_em (op := op) (a := 0) (m := 0) (K' := dN P) h1 (grw_le (g' := 0 + 1) (by omega) (grw_tr g1 (grw_tr g2 g2'))) (by omega) (by omega) (Or.inr (Or.inr (Or.inr (Or.inl ⟨o1, o2, by show 2 ≤ dN P2; rw [g2'.2.2.2.2.2]; omega⟩)))) (by simp only [dlt]; rw [if_neg (by omega), if_neg (by omega), if_pos (by omega)]; omega) (by omega)
      have g4 := smL_ok hF hb m _ _ g3.1.1 g3.1.2 (by rw [g3.2.2.2.2.2]; exact h3) (by rw [g3.2.2.2.2.2]; exact h4) e3
      rw [g3.2.2.2.2.2] at g4
      exact grw_tr g3 g4
    split at h
    · rename_i hs
      exact step 3 (by omega) (by omega) (isS_0 hs) h
    · split at h
      · rename_i hs
        exact step 4 (by omega) (by omega) (isS_0 hs) h
      · cases h
        exact grw_rf h1 h2
theorem exS_ok (hF : FOK n b F) (hb : b ≤ 30) {P P' : SP} (h1 : okB n P) (h2 : cdP P) (h3 : dN P + 2 ≤ b) (h : exS B n F P = .ok P') : grw n (dN P + 1) 0 P P' := by
  obtain ⟨P1, e1, e2⟩ := bd_ok h
  obtain ⟨P2, e2, e3⟩ := bd_ok e2
  have g1 := hF _ _ h1 h2 (by omega) e1
  have d1 := g1.2.2.2.2.2
  have g2 := prL_ok hF hb 901 _ _ g1.1.1 g1.1.2 (by rw [d1]; omega) (by rw [d1]; omega) e2
  rw [d1] at g2
  have d2 := g2.2.2.2.2.2
  have g3 := smL_ok hF hb 901 _ _ g2.1.1 g2.1.2 (by rw [d2]; omega) (by rw [d2]; omega) e3
  rw [d2] at g3
  exact grw_tr g1 (grw_tr g2 g3)
def XOK (n b : Nat) (X : SP → RS) : Prop := ∀ P P', okB n P → cdP P → ¬ P 0 0 = 0 → dN P ≤ b → X P = .ok P' → grw n (dN P + 1) 1 P P'
theorem rwO_s {P : SP} {r : Nat} (h : rwO P = some r) : r < P 0 8 ∧ P 5 r = P 0 1 := by
  have := fnd_s h
  omega
theorem vrO_s {P : SP} {v : Nat} (h : vrO P = some v) : v < P 0 7 ∧ P 4 v = P 0 1 := by
  have := fnd_s h
  omega
theorem facG_ok {X : SP → RS} (hX : XOK n b X) (hb : b ≤ 30) : FOK n b (facG B n X) := by
  intro P P' h1 h2 h3 h
  simp only [facG] at h
  have h8 := h1.2.2.1
  split at h
  · rename_i hk
    split at h
    · rename_i hv
      cases h
      rw [adv_em]
      exact grw_em h1 (adv_grw h1 h2 (by omega)) (by omega) (by omega) (Or.inl rfl) rfl (by show dN P + 1 ≤ 40; omega)
    · simp [flt] at h
  · split at h
    · rename_i hk hnm
      have h0 : ¬ P 0 0 = 0 := by have := isNm_t hnm; omega
      have g1 := adv_grw (B := B) h1 h2 h0
      split at h
      · rename_i r hr
        obtain ⟨s1, h⟩ := clo_ok h
        obtain ⟨P2, e2, h⟩ := bd_ok h
        obtain ⟨s2, h⟩ := clo_ok h
        cases h
        have g2 := hX _ _ g1.1.1 g1.1.2 (isS_0 s1) (by rw [adv_dN]; exact h3) e2
        rw [adv_dN] at g2
        have g3 := adv_grw (B := B) g2.1.1 g2.1.2 (isS_0 s2)
        have d2 := g2.2.2.2.2.2
        rw [d2] at g3
        have hr' := (rwO_s hr).1
        have e8 : adv B n P2 0 8 = P 0 8 := by rw [g3.2.2.2.1 8 (by omega), g2.2.2.2.1 8 (by omega), g1.2.2.2.1 8 (by omega)]
        have g4 := grw_tr g1 (grw_tr g2 g3)
        refine grw_le (by omega) (grw_em (g := 2) h1 (grw_le (by omega) g4) (by omega) (by omega) (Or.inr (Or.inr (Or.inl ⟨rfl, ?_, by rw [e8]; exact hr'⟩))) rfl (by show dN P + 1 ≤ 40; omega))
        show 1 ≤ dN (adv B n P2)
        rw [adv_dN, d2]
        omega
      · split at h
        · rename_i v hv
          cases h
          have hv' := (vrO_s hv).1
          have e7 : adv B n P 0 7 = P 0 7 := adv_f (by decide)
          exact grw_em h1 g1 (by omega) (by omega) (Or.inr (Or.inl ⟨rfl, by rw [e7]; exact hv'⟩)) rfl (by show dN P + 1 ≤ 40; omega)
        · simp [flt] at h
    · obtain ⟨s1, h⟩ := clo_ok h
      obtain ⟨P2, e2, h⟩ := bd_ok h
      obtain ⟨s2, h⟩ := clo_ok h
      cases h
      have g2 := hX _ _ h1 h2 (isS_0 s1) h3 e2
      have g3 := adv_grw (B := B) g2.1.1 g2.1.2 (isS_0 s2)
      rw [g2.2.2.2.2.2] at g3
      exact grw_le (by omega) (grw_tr g2 g3)
theorem fac_ok : ∀ (e : Nat), e ≤ 8 → FOK n (19 - 2 * e) (facS B n e)
  | 0, _ => by
    refine facG_ok (fun P P' _ _ _ _ h => ?_) (by omega)
    simp [flt] at h
  | e + 1, he => by
    refine facG_ok (fun P P' h1 h2 h0 h3 h => ?_) (by omega)
    have g1 := adv_grw (B := B) h1 h2 h0
    have g2 := exS_ok (fac_ok e (by omega)) (by omega) g1.1.1 g1.1.2 (by rw [adv_dN]; omega) h
    rw [adv_dN] at g2
    exact grw_tr g1 g2
theorem eS_ok {P P' : SP} (h1 : okB n P) (h2 : cdP P) (h3 : dN P ≤ 1) (h : eS B n P = .ok P') : grw n (dN P + 1) 0 P P' := exS_ok (fac_ok 8 (by omega)) (by omega) h1 h2 (by omega) h
end PK
