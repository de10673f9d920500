/-! what holds of the instructions while a TEXT is read -/
def dlt (op D : Nat) : Nat := if op ≤ 1 then D + 1 else if op = 2 then D else if op ≤ 7 then D - 1 else if op = 8 then D - 2 else if op = 9 then D - 1 else if op = 12 ∨ op = 13 then D - 2 else D
def dpF (f : Nat → Nat) : Nat → Nat
  | 0 => 0
  | i + 1 => dlt (f i) (dpF f i)
def nlF (f : Nat → Nat) : Nat → List Nat
  | 0 => []
  | i + 1 => if f i = 10 then i :: nlF f i else if f i = 11 then (nlF f i).tail else nlF f i
def blL (g h : Nat → Nat) : Nat → List Nat
  | 0 => []
  | b + 1 => if g b = 0 then h b :: blL g h b else blL g h b
theorem dp_cg {f g : Nat → Nat} : ∀ i, (∀ j, j < i → f j = g j) → dpF f i = dpF g i
  | 0, _ => rfl
  | i + 1, h => by
    simp only [dpF]
    rw [dp_cg i (fun j hj => h j (by omega)), h i (by omega)]
theorem nl_cg {f g : Nat → Nat} : ∀ i, (∀ j, j < i → f j = g j) → nlF f i = nlF g i
  | 0, _ => rfl
  | i + 1, h => by
    simp only [nlF]
    rw [nl_cg i (fun j hj => h j (by omega)), h i (by omega)]
theorem bl_cg {g h g' h' : Nat → Nat} : ∀ b, (∀ j, j < b → g j = g' j ∧ h j = h' j) → blL g h b = blL g' h' b
  | 0, _ => rfl
  | b + 1, q => by
    simp only [blL]
    rw [bl_cg b (fun j hj => q j (by omega)), (q b (by omega)).1, (q b (by omega)).2]
theorem bl_len (g h : Nat → Nat) : ∀ b, (blL g h b).length ≤ b
  | 0 => Nat.le_refl _
  | b + 1 => by
    have := bl_len g h b
    simp only [blL]
    split
    · simp only [List.length_cons]; omega
    · omega
def wfJ (P : SP) (i : Nat) : Prop :=
  (P 1 i = 0 ∧ P 2 i < 10000)
  ∨ (P 1 i = 1 ∧ P 2 i < P 0 7)
  ∨ (P 1 i = 2 ∧ 1 ≤ dpF (P 1) i ∧ P 2 i < P 0 8)
  ∨ (3 ≤ P 1 i ∧ P 1 i ≤ 6 ∧ 2 ≤ dpF (P 1) i)
  ∨ (P 1 i = 7 ∧ dpF (P 1) i = 1 ∧ P 2 i < P 0 7)
  ∨ (P 1 i = 8 ∧ dpF (P 1) i = 2 ∧ P 2 i < P 0 8)
  ∨ (P 1 i = 9 ∧ dpF (P 1) i = 1)
  ∨ (P 1 i = 10 ∧ dpF (P 1) i = 0 ∧ P 2 i < P 0 7 ∧ 1 ≤ P 3 i ∧ P 3 i ≤ 20)
  ∨ (P 1 i = 11 ∧ dpF (P 1) i = 0 ∧ ∃ l, P 2 i = l + 1 ∧ l < i ∧ P 1 l = 10 ∧ dpF (P 1) l = 0 ∧ nlF (P 1) i = l :: nlF (P 1) l)
  ∨ ((P 1 i = 12 ∨ P 1 i = 13) ∧ dpF (P 1) i = 2)
  ∨ (P 1 i = 14 ∧ dpF (P 1) i = 0)
def tgO (P : SP) (i : Nat) : Prop := (P 1 i = 12 ∨ P 1 i = 13 ∨ P 1 i = 14) → P 2 i ≤ P 0 4 ∧ dpF (P 1) (P 2 i) = 0 ∧ nlF (P 1) (P 2 i) = nlF (P 1) i
def blK (P : SP) (b : Nat) : Prop := P 9 b < P 0 4 ∧ nlF (P 1) (P 9 b) = blL (P 8) (P 9) b ∧ ((P 8 b = 0 ∧ P 1 (P 9 b) = 10) ∨ (P 8 b = 1 ∧ (P 1 (P 9 b) = 12 ∨ P 1 (P 9 b) = 13)) ∨ (P 8 b = 2 ∧ P 1 (P 9 b) = 14))
def cdP (P : SP) : Prop :=
  (∀ i, i < P 0 4 → wfJ P i ∧ P 2 i < 10000 ∧ P 3 i < 64 ∧ (tgO P i ∨ ∃ b, b < P 0 10 ∧ P 9 b = i ∧ ¬ P 8 b = 0))
  ∧ (∀ i, i ≤ P 0 4 → dpF (P 1) i ≤ 40 ∧ (nlF (P 1) i).length ≤ 4 ∧ ∀ x ∈ nlF (P 1) i, x < i ∧ P 1 x = 10)
  ∧ nlF (P 1) (P 0 4) = blL (P 8) (P 9) (P 0 10) ∧ (∀ b, b < P 0 10 → blK P b)
theorem wfJ_mono {P P' : SP} {i w : Nat} (hi : i < w) (h1 : ∀ j, j < w → P' 1 j = P 1 j) (h2 : P' 2 i = P 2 i ∨ 12 ≤ P 1 i) (h3 : P' 3 i = P 3 i) (h7 : P 0 7 ≤ P' 0 7) (h8 : P 0 8 ≤ P' 0 8) (h : wfJ P i) : wfJ P' i := by
  have e1 := h1 i hi
  have ed : dpF (P' 1) i = dpF (P 1) i := dp_cg i (fun j hj => h1 j (by omega))
  have en : nlF (P' 1) i = nlF (P 1) i := nl_cg i (fun j hj => h1 j (by omega))
  simp only [wfJ, e1, ed, en, h3] at h ⊢
  rcases h with h | h | h | h | h | h | h | h | ⟨q0, q1, l, q2, q3, q4, q5, q6⟩ | h | h
  · exact Or.inl (by omega)
  · exact Or.inr (Or.inl (by omega))
  · exact Or.inr (Or.inr (Or.inl (by omega)))
  · exact Or.inr (Or.inr (Or.inr (Or.inl (by omega))))
  · exact Or.inr (Or.inr (Or.inr (Or.inr (Or.inl (by omega)))))
  · exact Or.inr (Or.inr (Or.inr (Or.inr (Or.inr (Or.inl (by omega))))))
  · exact Or.inr (Or.inr (Or.inr (Or.inr (Or.inr (Or.inr (Or.inl (by omega)))))))
  · exact Or.inr (Or.inr (Or.inr (Or.inr (Or.inr (Or.inr (Or.inr (Or.inl (by omega))))))))
  · refine Or.inr (Or.inr (Or.inr (Or.inr (Or.inr (Or.inr (Or.inr (Or.inr (Or.inl ⟨q0, q1, l, by omega, q3, ?_, ?_, ?_⟩))))))))
    · rw [h1 l (by omega)]; exact q4
    · rw [dp_cg l (fun j hj => h1 j (by omega))]; exact q5
    · rw [nl_cg l (fun j hj => h1 j (by omega))]; exact q6
  · exact Or.inr (Or.inr (Or.inr (Or.inr (Or.inr (Or.inr (Or.inr (Or.inr (Or.inr (Or.inl h)))))))))
  · exact Or.inr (Or.inr (Or.inr (Or.inr (Or.inr (Or.inr (Or.inr (Or.inr (Or.inr (Or.inr h)))))))))
theorem tgO_mono {P P' : SP} {i w : Nat} (hi : i < w) (h1 : ∀ j, j < w → P' 1 j = P 1 j) (h2 : P' 2 i = P 2 i) (hw : P 0 4 ≤ w) (hw' : P 0 4 ≤ P' 0 4) (h : tgO P i) : tgO P' i := by
  intro hq
  rw [h1 i hi] at hq
  obtain ⟨a1, a2, a3⟩ := h hq
  rw [h2, dp_cg (P 2 i) (fun j hj => h1 j (by omega)), nl_cg (P 2 i) (fun j hj => h1 j (by omega)), nl_cg i (fun j hj => h1 j (by omega))]
  exact ⟨by omega, a2, a3⟩
theorem blK_mono {P P' : SP} {b w : Nat} (h1 : ∀ j, j < w → P' 1 j = P 1 j) (hw : P 0 4 ≤ w) (hw' : P 0 4 ≤ P' 0 4) (h8 : ∀ j, j ≤ b → P' 8 j = P 8 j) (h9 : ∀ j, j ≤ b → P' 9 j = P 9 j) (h : blK P b) : blK P' b := by
  obtain ⟨a1, a2, a3⟩ := h
  simp only [blK]
  rw [h8 b (by omega), h9 b (by omega), h1 (P 9 b) (by omega), nl_cg (P 9 b) (fun j hj => h1 j (by omega)), bl_cg b (fun j hj => ⟨h8 j (by omega), h9 j (by omega)⟩)]
  exact ⟨by omega, a2, a3⟩
theorem cd_same {P P' : SP} (h1 : P' 1 = P 1) (h2 : P' 2 = P 2) (h3 : P' 3 = P 3) (h8 : P' 8 = P 8) (h9 : P' 9 = P 9) (h4 : P' 0 4 = P 0 4) (h10 : P' 0 10 = P 0 10) (h7 : P 0 7 ≤ P' 0 7) (hr : P 0 8 ≤ P' 0 8) (h : cdP P) : cdP P' := by
  obtain ⟨c1, c2, c3, c4⟩ := h
  refine ⟨fun i hi => ?_, ?_, ?_, fun b hb => ?_⟩
  · obtain ⟨a1, a2, a3, a4⟩ := c1 i (by omega)
    refine ⟨wfJ_mono (w := P 0 4) (by omega) (fun j _ => by rw [h1]) (Or.inl (by rw [h2])) (by rw [h3]) h7 hr a1, by rw [h2]; exact a2, by rw [h3]; exact a3, ?_⟩
    rcases a4 with a4 | a4
    · exact Or.inl (tgO_mono (w := P 0 4) (by omega) (fun j _ => by rw [h1]) (by rw [h2]) (Nat.le_refl _) (by omega) a4)
    · right
      rw [h8, h9, h10]
      exact a4
  · rw [h1, h4]; exact c2
  · rw [h1, h4, h8, h9, h10]; exact c3
  · exact blK_mono (w := P 0 4) (fun j _ => by rw [h1]) (Nat.le_refl _) (by omega) (fun j _ => by rw [h8]) (fun j _ => by rw [h9]) (c4 b (by omega))
def newJ (P : SP) (op a : Nat) : Prop :=
  (op = 0) ∨ (op = 1 ∧ a < P 0 7) ∨ (op = 2 ∧ 1 ≤ dpF (P 1) (P 0 4) ∧ a < P 0 8) ∨ (3 ≤ op ∧ op ≤ 6 ∧ 2 ≤ dpF (P 1) (P 0 4))
  ∨ (op = 7 ∧ dpF (P 1) (P 0 4) = 1 ∧ a < P 0 7) ∨ (op = 8 ∧ dpF (P 1) (P 0 4) = 2 ∧ a < P 0 8) ∨ (op = 9 ∧ dpF (P 1) (P 0 4) = 1)
theorem em_lt {op a m : Nat} {P : SP} : ∀ j, j < P 0 4 → em op a m P 1 j = P 1 j := by
  intro j hj
  rw [em_1, if_neg (by omega)]
theorem em_dp {op a m : Nat} {P : SP} : dpF (em op a m P 1) (P 0 4 + 1) = dlt op (dpF (P 1) (P 0 4)) := by
  simp only [dpF]
  rw [dp_cg (P 0 4) em_lt, em_1, if_pos rfl]
theorem em_nl {op a m : Nat} {P : SP} : nlF (em op a m P 1) (P 0 4 + 1) = if op = 10 then P 0 4 :: nlF (P 1) (P 0 4) else if op = 11 then (nlF (P 1) (P 0 4)).tail else nlF (P 1) (P 0 4) := by
  simp only [nlF]
  rw [nl_cg (P 0 4) em_lt, em_1, if_pos rfl]
theorem cd_em {op a m : Nat} {P : SP} (hc : cdP P) (ha : a < 10000) (hm : m < 64) (hD : dlt op (dpF (P 1) (P 0 4)) ≤ 40) (hn : newJ P op a) : cdP (em op a m P) := by
  obtain ⟨c1, c2, c3, c4⟩ := hc
  have hop : op ≤ 9 := by
    simp only [newJ] at hn
    omega
  have eN : nlF (em op a m P 1) (P 0 4 + 1) = nlF (P 1) (P 0 4) := by rw [em_nl, if_neg (by omega), if_neg (by omega)]
  refine ⟨fun i hi => ?_, fun i hi => ?_, ?_, fun b hb => ?_⟩
  · rw [em_4] at hi
    by_cases hiw : i = P 0 4
    · subst hiw
      refine ⟨?_, ?_, ?_, Or.inl ?_⟩
      · simp only [wfJ]
        rw [em_1, if_pos rfl, em_2, if_pos rfl, em_0 (by decide), em_0 (by decide), dp_cg (P 0 4) em_lt]
        simp only [newJ] at hn
        rcases hn with h | h | h | h | h | h | h
        · exact Or.inl ⟨h, ha⟩
        · exact Or.inr (Or.inl h)
        · exact Or.inr (Or.inr (Or.inl h))
        · exact Or.inr (Or.inr (Or.inr (Or.inl h)))
        · exact Or.inr (Or.inr (Or.inr (Or.inr (Or.inl h))))
        · exact Or.inr (Or.inr (Or.inr (Or.inr (Or.inr (Or.inl h)))))
        · exact Or.inr (Or.inr (Or.inr (Or.inr (Or.inr (Or.inr (Or.inl h))))))
      · rw [em_2, if_pos rfl]; exact ha
      · rw [em_3, if_pos rfl]; exact hm
      · intro hq
        rw [em_1, if_pos rfl] at hq
        omega
    · obtain ⟨a1, a2, a3, a4⟩ := c1 i (by omega)
      have e2 : em op a m P 2 i = P 2 i := by rw [em_2, if_neg hiw]
      have e3 : em op a m P 3 i = P 3 i := by rw [em_3, if_neg hiw]
      refine ⟨wfJ_mono (w := P 0 4) (by omega) em_lt (Or.inl e2) e3 (by rw [em_0 (by decide)]; omega) (by rw [em_0 (by decide)]; omega) a1, by rw [e2]; exact a2, by rw [e3]; exact a3, ?_⟩
      rcases a4 with a4 | a4
      · exact Or.inl (tgO_mono (w := P 0 4) (by omega) em_lt e2 (Nat.le_refl _) (by rw [em_4]; omega) a4)
      · right
        rw [em_c (c := 8) (by decide), em_c (c := 9) (by decide), em_0 (j := 10) (by decide)]
        exact a4
  · rw [em_4] at hi
    by_cases hiw : i = P 0 4 + 1
    · subst hiw
      rw [em_dp, eN]
      refine ⟨hD, (c2 (P 0 4) (Nat.le_refl _)).2.1, fun x hx => ?_⟩
      have := (c2 (P 0 4) (Nat.le_refl _)).2.2 x hx
      rw [em_lt x (by omega)]
      exact ⟨by omega, this.2⟩
    · obtain ⟨a1, a2, a3⟩ := c2 i (by omega)
      rw [dp_cg i (fun j hj => em_lt j (by omega)), nl_cg i (fun j hj => em_lt j (by omega))]
      refine ⟨a1, a2, fun x hx => ?_⟩
      have := a3 x hx
      rw [em_lt x (by omega)]
      exact this
  · rw [em_4, eN, em_c (by decide), em_c (by decide), em_0 (by decide)]
    exact c3
  · rw [em_0 (by decide)] at hb
    exact blK_mono (w := P 0 4) em_lt (Nat.le_refl _) (by rw [em_4]; omega) (fun j _ => by rw [em_c (by decide)]) (fun j _ => by rw [em_c (by decide)]) (c4 b hb)
theorem opn_0 {k : Nat} {P : SP} {j : Nat} (h : ¬ j = 10) : opn k P 0 j = P 0 j := by simp [opn, up_ap, h]
theorem opn_10 {k : Nat} {P : SP} : opn k P 0 10 = P 0 10 + 1 := by simp [opn, up_ap]
theorem opn_c {k c : Nat} {P : SP} (h0 : ¬ c = 0) (h8 : ¬ c = 8) (h9 : ¬ c = 9) : opn k P c = P c := by
  funext j
  simp [opn, up_ap, h0, h8, h9]
theorem opn_8 {k j : Nat} {P : SP} : opn k P 8 j = if j = P 0 10 then k else P 8 j := by simp [opn, up_ap]
theorem opn_9 {k j : Nat} {P : SP} : opn k P 9 j = if j = P 0 10 then P 0 4 else P 9 j := by simp [opn, up_ap]
/-- LOOP, or a TEST: a block begins -/
theorem cd_opn {k op a m : Nat} {P : SP} (hc : cdP P) (hb : P 0 10 < 4) (ha : a < 10000) (hm : m < 64) (hk : (k = 0 ∧ op = 10 ∧ dpF (P 1) (P 0 4) = 0 ∧ a < P 0 7 ∧ 1 ≤ m ∧ m ≤ 20) ∨ (k = 1 ∧ (op = 12 ∨ op = 13) ∧ dpF (P 1) (P 0 4) = 2)) : cdP (em op a m (opn k P)) := by
  obtain ⟨c1, c2, c3, c4⟩ := hc
  have w : opn k P 0 4 = P 0 4 := opn_0 (by decide)
  have o1 : opn k P 1 = P 1 := opn_c (by decide) (by decide) (by decide)
  have o2 : opn k P 2 = P 2 := opn_c (by decide) (by decide) (by decide)
  have o3 : opn k P 3 = P 3 := opn_c (by decide) (by decide) (by decide)
  have lt : ∀ j, j < P 0 4 → em op a m (opn k P) 1 j = P 1 j := by
    intro j hj
    rw [em_1, w, if_neg (by omega), o1]
  have f4 : em op a m (opn k P) 0 4 = P 0 4 + 1 := by rw [em_4, w]
  have f10 : em op a m (opn k P) 0 10 = P 0 10 + 1 := by rw [em_0 (by decide), opn_10]
  have f7 : em op a m (opn k P) 0 7 = P 0 7 := by rw [em_0 (by decide), opn_0 (by decide)]
  have f8 : em op a m (opn k P) 0 8 = P 0 8 := by rw [em_0 (by decide), opn_0 (by decide)]
  have g8 : ∀ j, em op a m (opn k P) 8 j = if j = P 0 10 then k else P 8 j := by intro j; rw [em_c (by decide), opn_8]
  have g9 : ∀ j, em op a m (opn k P) 9 j = if j = P 0 10 then P 0 4 else P 9 j := by intro j; rw [em_c (by decide), opn_9]
  have ebl : blL (em op a m (opn k P) 8) (em op a m (opn k P) 9) (P 0 10) = blL (P 8) (P 9) (P 0 10) := bl_cg _ (fun j hj => by rw [g8, g9, if_neg (by omega), if_neg (by omega)]; exact ⟨rfl, rfl⟩)
  have eD : dpF (em op a m (opn k P) 1) (P 0 4 + 1) = 0 := by
    have := em_dp (op := op) (a := a) (m := m) (P := opn k P)
    rw [w, o1] at this
    rw [this]
    simp only [dlt]
    rcases hk with ⟨_, h, h', _⟩ | ⟨_, h, h'⟩
    · rw [if_neg (by omega), if_neg (by omega), if_neg (by omega), if_neg (by omega), if_neg (by omega), if_neg (by omega)]; exact h'
    · rw [if_neg (by omega), if_neg (by omega), if_neg (by omega), if_neg (by omega), if_neg (by omega), if_pos h]; omega
  have eN : nlF (em op a m (opn k P) 1) (P 0 4 + 1) = if op = 10 then P 0 4 :: nlF (P 1) (P 0 4) else nlF (P 1) (P 0 4) := by
    have := em_nl (op := op) (a := a) (m := m) (P := opn k P)
    rw [w, o1] at this
    rw [this]
    split
    · rfl
    · rw [if_neg (by omega)]
  have len := bl_len (P 8) (P 9) (P 0 10)
  refine ⟨fun i hi => ?_, fun i hi => ?_, ?_, fun b hb' => ?_⟩
  · rw [f4] at hi
    by_cases hiw : i = P 0 4
    · subst hiw
      refine ⟨?_, ?_, ?_, ?_⟩
      · simp only [wfJ]
        rw [em_1, w, if_pos rfl, em_2, w, if_pos rfl, em_3, w, if_pos rfl, f7, dp_cg (P 0 4) lt]
        rcases hk with ⟨_, h, h', h2, h3, h4⟩ | ⟨_, h, h'⟩
        · exact Or.inr (Or.inr (Or.inr (Or.inr (Or.inr (Or.inr (Or.inr (Or.inl ⟨h, h', h2, h3, h4⟩)))))))
        · exact Or.inr (Or.inr (Or.inr (Or.inr (Or.inr (Or.inr (Or.inr (Or.inr (Or.inr (Or.inl ⟨h, h'⟩)))))))))
      · rw [em_2, w, if_pos rfl]; exact ha
      · rw [em_3, w, if_pos rfl]; exact hm
      · rcases hk with ⟨_, h, _⟩ | ⟨hk, _⟩
        · left
          intro hq
          rw [em_1, w, if_pos rfl] at hq
          omega
        · right
          refine ⟨P 0 10, by rw [f10]; omega, ?_, ?_⟩
          · rw [g9, if_pos rfl]
          · rw [g8, if_pos rfl]; omega
    · obtain ⟨a1, a2, a3, a4⟩ := c1 i (by omega)
      have e2 : em op a m (opn k P) 2 i = P 2 i := by rw [em_2, w, if_neg hiw, o2]
      have e3 : em op a m (opn k P) 3 i = P 3 i := by rw [em_3, w, if_neg hiw, o3]
      refine ⟨wfJ_mono (w := P 0 4) (by omega) lt (Or.inl e2) e3 (by rw [f7]; omega) (by rw [f8]; omega) a1, by rw [e2]; exact a2, by rw [e3]; exact a3, ?_⟩
      rcases a4 with a4 | ⟨b, b1, b2, b3⟩
      · exact Or.inl (tgO_mono (w := P 0 4) (by omega) lt e2 (Nat.le_refl _) (by rw [f4]; omega) a4)
      · exact Or.inr ⟨b, by rw [f10]; omega, by rw [g9, if_neg (by omega)]; exact b2, by rw [g8, if_neg (by omega)]; exact b3⟩
  · rw [f4] at hi
    by_cases hiw : i = P 0 4 + 1
    · subst hiw
      rw [eD, eN]
      refine ⟨by omega, ?_, fun x hx => ?_⟩
      · rw [c3]
        split
        · simp only [List.length_cons]; omega
        · omega
      · split at hx
        · rename_i hop
          rcases List.mem_cons.mp hx with rfl | hx
          · exact ⟨by omega, by rw [em_1, w, if_pos rfl]; exact hop⟩
          · have := (c2 (P 0 4) (Nat.le_refl _)).2.2 x hx
            rw [lt x (by omega)]
            exact ⟨by omega, this.2⟩
        · have := (c2 (P 0 4) (Nat.le_refl _)).2.2 x hx
          rw [lt x (by omega)]
          exact ⟨by omega, this.2⟩
    · obtain ⟨a1, a2, a3⟩ := c2 i (by omega)
      rw [dp_cg i (fun j hj => lt j (by omega)), nl_cg i (fun j hj => lt j (by omega))]
      refine ⟨a1, a2, fun x hx => ?_⟩
      have := a3 x hx
      rw [lt x (by omega)]
      exact this
  · rw [f4, eN, f10]
    simp only [blL]
    rw [g8, if_pos rfl, g9, if_pos rfl, ebl, c3]
    rcases hk with ⟨h0, h, _⟩ | ⟨h0, h, _⟩
    · rw [if_pos h, if_pos h0]
    · rw [if_neg (by omega), if_neg (by omega)]
  · rw [f10] at hb'
    by_cases hbb : b = P 0 10
    · subst hbb
      simp only [blK]
      rw [g8, if_pos rfl, g9, if_pos rfl, f4, ebl, em_1, w, if_pos rfl, nl_cg (P 0 4) lt]
      refine ⟨by omega, c3, ?_⟩
      omega
    · exact blK_mono (w := P 0 4) lt (Nat.le_refl _) (by rw [f4]; omega) (fun j hj => by rw [g8, if_neg (by omega)]) (fun j hj => by rw [g9, if_neg (by omega)]) (c4 b (by omega))
/-- the end of a loop -/
theorem cd_endL {P : SP} (hc : cdP P) (h4 : P 0 4 ≤ 900) (hb : 1 ≤ P 0 10) (hk : P 8 (P 0 10 - 1) = 0) (hD : dpF (P 1) (P 0 4) = 0) : cdP (em 11 (P 9 (P 0 10 - 1) + 1) 0 (up P 0 10 (P 0 10 - 1))) := by
  obtain ⟨c1, c2, c3, c4⟩ := hc
  obtain ⟨b, hbe⟩ : ∃ b, P 0 10 = b + 1 := ⟨P 0 10 - 1, by omega⟩
  have e10 : P 0 10 - 1 = b := by omega
  rw [e10] at hk ⊢
  have hk4 := c4 b (by omega)
  generalize hs : P 9 b = s at hk4
  have hs' : P 9 b = s := hs
  rw [blK, hs'] at hk4
  obtain ⟨k1, k2, k3⟩ := hk4
  have k3 : P 1 s = 10 := by omega
  generalize hP1 : up P 0 10 b = P1
  have q : ∀ c, ¬ c = 0 → P1 c = P c := fun c h => by rw [← hP1]; exact upc_ne h
  have q0 : ∀ j, ¬ j = 10 → P1 0 j = P 0 j := fun j h => by rw [← hP1]; exact up_nk h
  have q10 : P1 0 10 = b := by rw [← hP1]; exact up_s
  have w : P1 0 4 = P 0 4 := q0 4 (by decide)
  have lt : ∀ j, j < P 0 4 → em 11 (s + 1) 0 P1 1 j = P 1 j := by
    intro j hj
    rw [em_1, w, if_neg (by omega), q 1 (by decide)]
  have f4 : em 11 (s + 1) 0 P1 0 4 = P 0 4 + 1 := by rw [em_4, w]
  have f10 : em 11 (s + 1) 0 P1 0 10 = b := by rw [em_0 (by decide), q10]
  have f7 : em 11 (s + 1) 0 P1 0 7 = P 0 7 := by rw [em_0 (by decide), q0 7 (by decide)]
  have f8 : em 11 (s + 1) 0 P1 0 8 = P 0 8 := by rw [em_0 (by decide), q0 8 (by decide)]
  have g8 : em 11 (s + 1) 0 P1 8 = P 8 := by rw [em_c (by decide), q 8 (by decide)]
  have g9 : em 11 (s + 1) 0 P1 9 = P 9 := by rw [em_c (by decide), q 9 (by decide)]
  have hN : nlF (P 1) (P 0 4) = s :: nlF (P 1) s := by
    rw [c3, hbe, k2]
    simp only [blL]
    rw [if_pos hk, hs']
  have eD : dpF (em 11 (s + 1) 0 P1 1) (P 0 4 + 1) = 0 := by
    have := em_dp (op := 11) (a := s + 1) (m := 0) (P := P1)
    rw [w, q 1 (by decide), hD] at this
    rw [this]
    decide
  have eN : nlF (em 11 (s + 1) 0 P1 1) (P 0 4 + 1) = nlF (P 1) s := by
    have := em_nl (op := 11) (a := s + 1) (m := 0) (P := P1)
    rw [w, q 1 (by decide), hN] at this
    rw [this]
    rfl
  have ds : dpF (P 1) s = 0 := by
    have := (c1 s (by omega)).1
    simp only [wfJ] at this
    omega
  refine ⟨fun i hi => ?_, fun i hi => ?_, ?_, fun b' hb' => ?_⟩
  · rw [f4] at hi
    by_cases hiw : i = P 0 4
    · subst hiw
      refine ⟨?_, ?_, ?_, Or.inl ?_⟩
      · refine Or.inr (Or.inr (Or.inr (Or.inr (Or.inr (Or.inr (Or.inr (Or.inr (Or.inl ⟨?_, ?_, s, ?_, by omega, ?_, ?_, ?_⟩))))))))
        · rw [em_1, w, if_pos rfl]
        · rw [dp_cg (P 0 4) lt]; exact hD
        · rw [em_2, w, if_pos rfl]
        · rw [lt s (by omega)]; exact k3
        · rw [dp_cg s (fun j hj => lt j (by omega))]; exact ds
        · rw [nl_cg (P 0 4) lt, nl_cg s (fun j hj => lt j (by omega))]; exact hN
      · rw [em_2, w, if_pos rfl]; omega
      · rw [em_3, w, if_pos rfl]; omega
      · intro hq
        rw [em_1, w, if_pos rfl] at hq
        omega
    · obtain ⟨a1, a2, a3, a4⟩ := c1 i (by omega)
      have e2 : em 11 (s + 1) 0 P1 2 i = P 2 i := by rw [em_2, w, if_neg hiw, q 2 (by decide)]
      have e3 : em 11 (s + 1) 0 P1 3 i = P 3 i := by rw [em_3, w, if_neg hiw, q 3 (by decide)]
      refine ⟨wfJ_mono (w := P 0 4) (by omega) lt (Or.inl e2) e3 (by rw [f7]; omega) (by rw [f8]; omega) a1, by rw [e2]; exact a2, by rw [e3]; exact a3, ?_⟩
      rcases a4 with a4 | ⟨b2, b1, b3, b4⟩
      · exact Or.inl (tgO_mono (w := P 0 4) (by omega) lt e2 (Nat.le_refl _) (by rw [f4]; omega) a4)
      · refine Or.inr ⟨b2, ?_, by rw [g9]; exact b3, by rw [g8]; exact b4⟩
        rw [f10]
        have : ¬ b2 = b := fun h => b4 (by rw [h]; exact hk)
        omega
  · rw [f4] at hi
    by_cases hiw : i = P 0 4 + 1
    · subst hiw
      rw [eD, eN]
      obtain ⟨a1, a2, a3⟩ := c2 s (by omega)
      refine ⟨by omega, a2, fun x hx => ?_⟩
      have := a3 x hx
      rw [lt x (by omega)]
      exact ⟨by omega, this.2⟩
    · obtain ⟨a1, a2, a3⟩ := c2 i (by omega)
      rw [dp_cg i (fun j hj => lt j (by omega)), nl_cg i (fun j hj => lt j (by omega))]
      refine ⟨a1, a2, fun x hx => ?_⟩
      have := a3 x hx
      rw [lt x (by omega)]
      exact this
  · rw [f4, eN, f10, g8, g9]
    exact k2
  · rw [f10] at hb'
    exact blK_mono (w := P 0 4) lt (Nat.le_refl _) (by rw [f4]; omega) (fun j _ => by rw [g8]) (fun j _ => by rw [g9]) (c4 b' (by omega))
/-- the end of an if -/
theorem cd_endI {P : SP} (hc : cdP P) (h4 : P 0 4 ≤ 900) (hb : 1 ≤ P 0 10) (hk : ¬ P 8 (P 0 10 - 1) = 0) (hD : dpF (P 1) (P 0 4) = 0) : cdP (pat (P 9 (P 0 10 - 1)) (up P 0 10 (P 0 10 - 1))) := by
  obtain ⟨c1, c2, c3, c4⟩ := hc
  obtain ⟨b, hbe⟩ : ∃ b, P 0 10 = b + 1 := ⟨P 0 10 - 1, by omega⟩
  have e10 : P 0 10 - 1 = b := by omega
  rw [e10] at hk ⊢
  have hk4 := c4 b (by omega)
  generalize hs : P 9 b = s at hk4
  have hs' : P 9 b = s := hs
  rw [blK, hs'] at hk4
  obtain ⟨k1, k2, k3⟩ := hk4
  generalize hP1 : pat s (up P 0 10 b) = P1
  have q : ∀ c, ¬ c = 0 → ¬ c = 2 → P1 c = P c := fun c h h2 => by rw [← hP1, pat, upc_ne h2, upc_ne h]
  have q0 : ∀ j, ¬ j = 10 → P1 0 j = P 0 j := fun j h => by rw [← hP1, pat, up_na (by decide), up_nk h]
  have q10 : P1 0 10 = b := by rw [← hP1, pat, up_na (by decide), up_s]
  have q2 : ∀ j, P1 2 j = if j = s then P 0 4 else P 2 j := by
    intro j
    rw [← hP1, pat]
    by_cases h : j = s
    · rw [if_pos h, h, up_s, up_nk (by decide)]
    · rw [if_neg h, up_nk h, up_na (by decide)]
  have lt : ∀ j, j < P 0 4 → P1 1 j = P 1 j := fun j _ => by rw [q 1 (by decide) (by decide)]
  have hN : nlF (P 1) (P 0 4) = nlF (P 1) s := by
    rw [c3, hbe, k2]
    simp only [blL]
    rw [if_neg hk]
  have hop : P 1 s = 12 ∨ P 1 s = 13 ∨ P 1 s = 14 := by omega
  refine ⟨fun i hi => ?_, ?_, ?_, fun b' hb' => ?_⟩
  · rw [q0 4 (by decide)] at hi
    obtain ⟨a1, a2, a3, a4⟩ := c1 i (by omega)
    refine ⟨wfJ_mono (w := P 0 4) (by omega) lt ?_ (by rw [q 3 (by decide) (by decide)]) (by rw [q0 7 (by decide)]; omega) (by rw [q0 8 (by decide)]; omega) a1, ?_, by rw [q 3 (by decide) (by decide)]; exact a3, ?_⟩
    · by_cases his : i = s
      · right; rw [his]; omega
      · left; rw [q2, if_neg his]
    · rw [q2]
      split
      · omega
      · exact a2
    · by_cases his : i = s
      · left
        intro _
        rw [q2, if_pos his, q0 4 (by decide), q 1 (by decide) (by decide), his]
        exact ⟨Nat.le_refl _, hD, hN⟩
      · rcases a4 with a4 | ⟨b2, b1, b3, b4⟩
        · exact Or.inl (tgO_mono (w := P 0 4) (by omega) lt (by rw [q2, if_neg his]) (Nat.le_refl _) (by rw [q0 4 (by decide)]; omega) a4)
        · refine Or.inr ⟨b2, ?_, by rw [q 9 (by decide) (by decide)]; exact b3, by rw [q 8 (by decide) (by decide)]; exact b4⟩
          rw [q10]
          have : ¬ b2 = b := fun h => his (by rw [← b3, h]; exact hs')
          omega
  · rw [q 1 (by decide) (by decide), q0 4 (by decide)]
    exact c2
  · rw [q 1 (by decide) (by decide), q0 4 (by decide), q10, q 8 (by decide) (by decide), q 9 (by decide) (by decide), hN]
    exact k2
  · rw [q10] at hb'
    exact blK_mono (w := P 0 4) lt (Nat.le_refl _) (by rw [q0 4 (by decide)]; omega) (fun j _ => by rw [q 8 (by decide) (by decide)]) (fun j _ => by rw [q 9 (by decide) (by decide)]) (c4 b' (by omega))
/-- else -/
theorem cd_els {P : SP} (hc : cdP P) (h4 : P 0 4 ≤ 900) (hb : 1 ≤ P 0 10) (hk : P 8 (P 0 10 - 1) = 1) (hD : dpF (P 1) (P 0 4) = 0) : cdP (pat (P 9 (P 0 10 - 1)) (em 14 0 0 (up (up P 8 (P 0 10 - 1) 2) 9 (P 0 10 - 1) (P 0 4)))) := by
  obtain ⟨c1, c2, c3, c4⟩ := hc
  obtain ⟨b, hbe⟩ : ∃ b, P 0 10 = b + 1 := ⟨P 0 10 - 1, by omega⟩
  have e10 : P 0 10 - 1 = b := by omega
  rw [e10] at hk ⊢
  have hk4 := c4 b (by omega)
  generalize hs : P 9 b = s at hk4
  have hs' : P 9 b = s := hs
  rw [blK, hs'] at hk4
  obtain ⟨k1, k2, k3⟩ := hk4
  generalize hP0 : up (up P 8 b 2) 9 b (P 0 4) = P0
  have r : ∀ c, ¬ c = 8 → ¬ c = 9 → P0 c = P c := fun c h h2 => by rw [← hP0, upc_ne h2, upc_ne h]
  have w : P0 0 4 = P 0 4 := by rw [r 0 (by decide) (by decide)]
  generalize hP1 : pat s (em 14 0 0 P0) = P1
  have q1 : P1 1 = em 14 0 0 P0 1 := by rw [← hP1, pat, upc_ne (by decide)]
  have q3 : P1 3 = em 14 0 0 P0 3 := by rw [← hP1, pat, upc_ne (by decide)]
  have q0 : ∀ j, ¬ j = 4 → P1 0 j = P 0 j := fun j h => by rw [← hP1, pat, up_na (by decide), em_0 h, r 0 (by decide) (by decide)]
  have q4 : P1 0 4 = P 0 4 + 1 := by rw [← hP1, pat, up_na (by decide), em_4, w]
  have q8 : ∀ j, P1 8 j = if j = b then 2 else P 8 j := by
    intro j
    rw [← hP1, pat, up_na (by decide), em_c (by decide), ← hP0, up_na (by decide)]
    by_cases h : j = b
    · rw [if_pos h, h, up_s]
    · rw [if_neg h, up_nk h]
  have q9 : ∀ j, P1 9 j = if j = b then P 0 4 else P 9 j := by
    intro j
    rw [← hP1, pat, up_na (by decide), em_c (by decide), ← hP0]
    by_cases h : j = b
    · rw [if_pos h, h, up_s]
    · rw [if_neg h, up_nk h, up_na (by decide)]
  have q2 : ∀ j, P1 2 j = if j = s then P 0 4 + 1 else if j = P 0 4 then 0 else P 2 j := by
    intro j
    rw [← hP1, pat]
    by_cases h : j = s
    · rw [if_pos h, h, up_s, em_4, w]
    · rw [if_neg h, up_nk h, em_2, w, r 2 (by decide) (by decide)]
  have lt : ∀ j, j < P 0 4 → P1 1 j = P 1 j := by
    intro j hj
    rw [q1, em_1, w, if_neg (by omega), r 1 (by decide) (by decide)]
  have q1w : P1 1 (P 0 4) = 14 := by rw [q1, em_1, w, if_pos rfl]
  have hN : nlF (P 1) (P 0 4) = nlF (P 1) s := by
    rw [c3, hbe, k2]
    simp only [blL]
    rw [if_neg (by omega)]
  have eD : dpF (P1 1) (P 0 4 + 1) = 0 := by
    have := em_dp (op := 14) (a := 0) (m := 0) (P := P0)
    rw [w, r 1 (by decide) (by decide), hD] at this
    rw [q1, this]
    decide
  have eN : nlF (P1 1) (P 0 4 + 1) = nlF (P 1) (P 0 4) := by
    have := em_nl (op := 14) (a := 0) (m := 0) (P := P0)
    rw [w, r 1 (by decide) (by decide)] at this
    rw [q1, this]
    rfl
  have ebl : blL (P1 8) (P1 9) b = blL (P 8) (P 9) b := bl_cg _ (fun j hj => by rw [q8, q9, if_neg (by omega), if_neg (by omega)]; exact ⟨rfl, rfl⟩)
  refine ⟨fun i hi => ?_, fun i hi => ?_, ?_, fun b' hb' => ?_⟩
  · rw [q4] at hi
    by_cases hiw : i = P 0 4
    · subst hiw
      refine ⟨?_, ?_, ?_, Or.inr ⟨b, by rw [q0 10 (by decide)]; omega, by rw [q9, if_pos rfl], by rw [q8, if_pos rfl]; omega⟩⟩
      · refine Or.inr (Or.inr (Or.inr (Or.inr (Or.inr (Or.inr (Or.inr (Or.inr (Or.inr (Or.inr ⟨q1w, ?_⟩)))))))))
        rw [dp_cg (P 0 4) lt]; exact hD
      · rw [q2, if_neg (by omega), if_pos rfl]; omega
      · rw [q3, em_3, w, if_pos rfl]; omega
    · obtain ⟨a1, a2, a3, a4⟩ := c1 i (by omega)
      have e3 : P1 3 i = P 3 i := by rw [q3, em_3, w, if_neg hiw, r 3 (by decide) (by decide)]
      have e2 : ¬ i = s → P1 2 i = P 2 i := fun h => by rw [q2, if_neg h, if_neg hiw]
      refine ⟨wfJ_mono (w := P 0 4) (by omega) lt ?_ e3 (by rw [q0 7 (by decide)]; omega) (by rw [q0 8 (by decide)]; omega) a1, ?_, by rw [e3]; exact a3, ?_⟩
      · by_cases his : i = s
        · right; rw [his]; omega
        · left; exact e2 his
      · by_cases his : i = s
        · rw [q2, if_pos his]; omega
        · rw [e2 his]; exact a2
      · by_cases his : i = s
        · left
          intro _
          rw [q2, if_pos his, q4, eD, eN, his, nl_cg s (fun j hj => lt j (by omega))]
          exact ⟨Nat.le_refl _, rfl, hN⟩
        · rcases a4 with a4 | ⟨b2, b1, b3, b4⟩
          · exact Or.inl (tgO_mono (w := P 0 4) (by omega) lt (e2 his) (Nat.le_refl _) (by rw [q4]; omega) a4)
          · have : ¬ b2 = b := fun h => his (by rw [← b3, h]; exact hs')
            exact Or.inr ⟨b2, by rw [q0 10 (by decide)]; exact b1, by rw [q9, if_neg this]; exact b3, by rw [q8, if_neg this]; exact b4⟩
  · rw [q4] at hi
    by_cases hiw : i = P 0 4 + 1
    · subst hiw
      rw [eD, eN]
      obtain ⟨a1, a2, a3⟩ := c2 (P 0 4) (Nat.le_refl _)
      refine ⟨by omega, a2, fun x hx => ?_⟩
      have := a3 x hx
      rw [lt x (by omega)]
      exact ⟨by omega, this.2⟩
    · obtain ⟨a1, a2, a3⟩ := c2 i (by omega)
      rw [dp_cg i (fun j hj => lt j (by omega)), nl_cg i (fun j hj => lt j (by omega))]
      refine ⟨a1, a2, fun x hx => ?_⟩
      have := a3 x hx
      rw [lt x (by omega)]
      exact this
  · rw [q4, eN, q0 10 (by decide), hbe, hN]
    simp only [blL]
    rw [q8, if_pos rfl, if_neg (by decide), ebl]
    exact k2
  · rw [q0 10 (by decide)] at hb'
    by_cases hbb : b' = b
    · subst hbb
      simp only [blK]
      rw [q8, if_pos rfl, q9, if_pos rfl, q4, ebl, q1w, nl_cg (P 0 4) lt]
      exact ⟨by omega, hN.trans k2, by omega⟩
    · exact blK_mono (w := P 0 4) lt (Nat.le_refl _) (by rw [q4]; omega) (fun j hj => by rw [q8, if_neg (by omega)]) (fun j hj => by rw [q9, if_neg (by omega)]) (c4 b' (by omega))
