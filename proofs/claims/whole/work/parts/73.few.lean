/-! FEW: the closed form keeps the recursion -/
def suT (f : Nat → Nat) : Nat → Nat
  | 0 => f 0
  | i + 1 => suT f i + f (i + 1)
/-- how far i times anew reach with c states -/
def bC : Nat → Nat → Nat
  | 0 => fun i => i + 1
  | c + 1 => suT (bC c)
theorem bC_s (c i : Nat) : bC (c + 1) (i + 1) = bC (c + 1) i + bC c (i + 1) := rfl
theorem bC_0 : ∀ c, bC c 0 = 1
  | 0 => rfl
  | c + 1 => bC_0 c
theorem bC_ge : ∀ (c i : Nat), i + 1 ≤ bC c i
  | 0, i => Nat.le_refl _
  | c + 1, 0 => by rw [bC_0]; omega
  | c + 1, i + 1 => by
    have := bC_ge c (i + 1)
    rw [bC_s]
    omega
theorem bC_1 : ∀ (c i : Nat), bC c i ≤ bC c (i + 1)
  | 0, i => by simp only [bC]; omega
  | c + 1, i => by rw [bC_s]; omega
theorem bC_mono (c : Nat) {i j : Nat} (h : i ≤ j) : bC c i ≤ bC c j := by
  induction h with
  | refl => exact Nat.le_refl _
  | step _ ih => exact Nat.le_trans ih (bC_1 c _)
theorem bC_PR : ∀ (c : Nat), (∀ i, bC c i * (c + 2 + i) = (i + 1) * bC c (i + 1)) ∧ (∀ i, bC c (i + 1) * (i + 1) = bC (c + 1) i * (c + 2))
  | 0 => by
    refine ⟨fun i => ?_, fun i => ?_⟩
    · simp only [bC]
      congr 1
      omega
    · induction i with
      | zero => rfl
      | succ i ih =>
        rw [bC_s, Nat.add_mul, ← ih]
        simp only [bC]
        simp only [Nat.add_mul, Nat.mul_add]
        omega
  | c + 1 => by
    obtain ⟨hP, hR⟩ := bC_PR c
    have hP1 : ∀ i, bC (c + 1) i * (c + 1 + 2 + i) = (i + 1) * bC (c + 1) (i + 1) := by
      intro i
      rw [bC_s, Nat.mul_add (i + 1), Nat.mul_comm (i + 1) (bC c (i + 1)), hR i, show c + 1 + 2 + i = (i + 1) + (c + 2) by omega, Nat.mul_add, Nat.mul_comm (bC (c + 1) i) (i + 1)]
    refine ⟨hP1, fun i => ?_⟩
    induction i with
    | zero =>
      have := hP1 0
      rw [bC_0] at this
      rw [bC_0]
      omega
    | succ i ih =>
      rw [bC_s (c + 1), Nat.add_mul, ← ih]
      have := hP1 (i + 1)
      rw [Nat.mul_comm (bC (c + 1) (i + 1 + 1)), ← this, ← Nat.mul_add]
      congr 1
      omega
theorem bC_div (c i : Nat) : bC c i * (c + 2 + i) / (i + 1) = bC c (i + 1) := by
  rw [(bC_PR c).1 i]
  exact Nat.mul_div_cancel_left _ (by omega)
theorem smN_ext {f : Nat → Nat} {n : Nat} (h : ∀ i, n ≤ i → f i = 0) : ∀ k, smN f (n + k) = smN f n
  | 0 => rfl
  | k + 1 => by
    show smN f (n + k) + f (n + k) = smN f n
    rw [smN_ext h k, h (n + k) (by omega)]
    rfl
theorem smN_le {f : Nat → Nat} {b : Nat} (h : ∀ i, f i ≤ b) : ∀ n, smN f n ≤ n * b
  | 0 => by simp [smN]
  | n + 1 => by
    have := smN_le h n
    have := h n
    simp only [smN, Nat.add_mul]
    omega
def fwN (l c : Nat) : Nat := smN (fun i => l - bC c i) 400
theorem fwN_n {l c n : Nat} (hn : n ≤ 400) (h : l ≤ bC c n) : fwN l c = smN (fun i => l - bC c i) n := by
  have := smN_ext (f := fun i => l - bC c i) (n := n) (fun i hi => by
    have := bC_mono c hi
    show l - bC c i = 0
    omega) (400 - n)
  rw [show n + (400 - n) = 400 by omega] at this
  exact this
theorem fwN_le (l c : Nat) : fwN l c ≤ 400 * l := smN_le (fun i => Nat.sub_le _ _) 400
theorem fwN_1 (c : Nat) : fwN 1 c = 0 := by
  rw [fwN_n (n := 0) (by omega) (by rw [bC_0]; omega)]
  rfl
theorem fw0_s (l : Nat) : ∀ n, n ≤ l → 2 * smN (fun i => l - bC 0 i) n + n * n + n = 2 * (n * l)
  | 0, _ => by simp [smN]
  | n + 1, h => by
    have := fw0_s l n (by omega)
    simp only [smN, bC] at this ⊢
    simp only [Nat.add_mul, Nat.mul_add] at this ⊢
    omega
theorem fwN_0 {l : Nat} (h0 : 1 ≤ l) (h : l ≤ 400) : fwN l 0 = l * (l - 1) / 2 := by
  have h1 := fw0_s l l (Nat.le_refl _)
  rw [fwN_n h (bC_ge 0 l |> Nat.le_of_succ_le)]
  obtain ⟨k, rfl⟩ : ∃ k, l = k + 1 := ⟨l - 1, by omega⟩
  simp only [Nat.add_sub_cancel]
  simp only [Nat.add_mul, Nat.mul_add] at h1 ⊢
  omega
theorem fw_lo {l c j : Nat} (h1 : 1 ≤ j) (h2 : j < l) : ∀ n, smN (fun i => l - bC (c + 1) i) (n + 1) ≤ j + smN (fun i => l - j - bC c i) (n + 1) + smN (fun i => j - bC (c + 1) i) n
  | 0 => by
    simp only [smN, bC_0]
    omega
  | n + 1 => by
    have := fw_lo (c := c) h1 h2 n
    have e := bC_s c n
    simp only [smN] at this ⊢
    omega
theorem fw_eq {l c j : Nat} (h1 : 1 ≤ j) (h2 : j < l) (hH : ∀ i, (bC c (i + 1) ≤ l - j ∧ bC (c + 1) i ≤ j) ∨ (l - j ≤ bC c (i + 1) ∧ j ≤ bC (c + 1) i)) : ∀ n, smN (fun i => l - bC (c + 1) i) (n + 1) = j + smN (fun i => l - j - bC c i) (n + 1) + smN (fun i => j - bC (c + 1) i) n
  | 0 => by
    simp only [smN, bC_0]
    omega
  | n + 1 => by
    have := fw_eq (c := c) h1 h2 hH n
    have e := bC_s c n
    have := hH n
    simp only [smN] at *
    omega
def itsN (l c j : Nat) : Nat := j + fwN (l - j) (c - 1) + fwN j c
theorem its_399 {j c : Nat} (h : j < 400) : fwN j c = smN (fun i => j - bC c i) 399 := fwN_n (by omega) (by have := bC_ge c 399; omega)
theorem its_ge {l c j : Nat} (hc : 1 ≤ c) (h1 : 1 ≤ j) (h2 : j < l) (hl : l ≤ 400) : fwN l c ≤ itsN l c j := by
  obtain ⟨c, rfl⟩ : ∃ k, c = k + 1 := ⟨c - 1, by omega⟩
  simp only [itsN, Nat.add_sub_cancel]
  rw [its_399 (j := j) (by omega)]
  exact fw_lo h1 h2 399
theorem least_up {P : Nat → Prop} (b : Nat) (h0 : P 0) (hb : ¬ P b) : ∃ m, P m ∧ ¬ P (m + 1) := by
  induction b with
  | zero => exact absurd h0 hb
  | succ b ih =>
    by_cases h : P b
    · exact ⟨b, h, hb⟩
    · exact ih h
theorem its_ex {l c : Nat} (hc : 1 ≤ c) (h2 : 2 ≤ l) (hl : l ≤ 400) : ∃ j, 1 ≤ j ∧ j < l ∧ itsN l c j = fwN l c := by
  obtain ⟨c, rfl⟩ : ∃ k, c = k + 1 := ⟨c - 1, by omega⟩
  obtain ⟨m, hm1, hm2⟩ := least_up (P := fun m => bC (c + 1) m ≤ l) l (by show bC (c + 1) 0 ≤ l; rw [bC_0]; omega) (by have := bC_ge (c + 1) l; show ¬ bC (c + 1) l ≤ l; omega)
  have hm2 : l < bC (c + 1) m + bC c (m + 1) := by rw [← bC_s]; omega
  have fin : ∀ j, 1 ≤ j → j < l → (∀ i, (bC c (i + 1) ≤ l - j ∧ bC (c + 1) i ≤ j) ∨ (l - j ≤ bC c (i + 1) ∧ j ≤ bC (c + 1) i)) → ∃ j, 1 ≤ j ∧ j < l ∧ itsN l (c + 1) j = fwN l (c + 1) := by
    intro j q1 q2 q3
    refine ⟨j, q1, q2, ?_⟩
    simp only [itsN, Nat.add_sub_cancel]
    rw [its_399 (j := j) (by omega)]
    exact (fw_eq q1 q2 q3 399).symm
  rcases m with _ | m
  · rw [bC_0] at hm1 hm2
    refine fin 1 (by omega) (by omega) (fun i => Or.inr ⟨?_, ?_⟩)
    · have := bC_mono c (show 0 + 1 ≤ i + 1 by omega)
      omega
    · have := bC_ge (c + 1) i
      omega
  · have e := bC_s c m
    have g1 := bC_1 c (m + 1)
    have g2 := bC_1 (c + 1) m
    have g3 := bC_ge (c + 1) m
    have g4 := bC_ge c (m + 1)
    have hm1 : bC (c + 1) (m + 1) ≤ l := hm1
    by_cases hcase : bC (c + 1) m + bC c (m + 1 + 1) ≤ l
    · refine fin (l - bC c (m + 1 + 1)) (by omega) (by omega) (fun i => ?_)
      by_cases hi : i ≤ m
      · have a1 := bC_mono c (show i + 1 ≤ m + 1 by omega)
        have a2 := bC_mono (c + 1) hi
        exact Or.inl ⟨by omega, by omega⟩
      · have a1 := bC_mono c (show m + 1 + 1 ≤ i + 1 by omega)
        have a2 := bC_mono (c + 1) (show m + 1 ≤ i by omega)
        exact Or.inr ⟨by omega, by omega⟩
    · refine fin (bC (c + 1) m) (by omega) (by omega) (fun i => ?_)
      by_cases hi : i ≤ m
      · have a1 := bC_mono c (show i + 1 ≤ m + 1 by omega)
        have a2 := bC_mono (c + 1) hi
        exact Or.inl ⟨by omega, by omega⟩
      · have a1 := bC_mono c (show m + 1 + 1 ≤ i + 1 by omega)
        have a2 := bC_mono (c + 1) (show m + 1 ≤ i by omega)
        exact Or.inr ⟨by omega, by omega⟩
/-- SPLIT: the first that does it -/
def spF (l c : Nat) : Nat → Nat → Nat
  | 0, _ => 1
  | m + 1, j => if itsN l c j = fwN l c then j else spF l c m (j + 1)
def splN (l c : Nat) : Nat := spF l c (l - 1) 1
theorem spF_in (l c : Nat) : ∀ (m j : Nat), 1 ≤ j → j + m = l → 2 ≤ l → 1 ≤ spF l c m j ∧ spF l c m j < l
  | 0, _, _, _, _ => by simp only [spF]; omega
  | m + 1, j, h1, h2, h3 => by
    simp only [spF]
    split
    · omega
    · exact spF_in l c m (j + 1) (by omega) (by omega) h3
theorem splN_in {l c : Nat} (h : 2 ≤ l) : 1 ≤ splN l c ∧ splN l c < l := spF_in l c (l - 1) 1 (by omega) (by omega) h
theorem spF_at {l c j0 : Nat} (h0 : itsN l c j0 = fwN l c) : ∀ (m j : Nat), j ≤ j0 → j0 < j + m → (∀ j', j ≤ j' → j' < j0 → ¬ itsN l c j' = fwN l c) → spF l c m j = j0
  | 0, _, _, _, _ => by omega
  | m + 1, j, h1, h2, h3 => by
    simp only [spF]
    by_cases hj : j = j0
    · rw [hj, if_pos h0]
    · rw [if_neg (h3 j (Nat.le_refl _) (by omega))]
      exact spF_at h0 m (j + 1) (by omega) (by omega) (fun j' a b => h3 j' (by omega) b)
theorem splN_at {l c j0 : Nat} (h1 : 1 ≤ j0) (h2 : j0 < l) (h0 : itsN l c j0 = fwN l c) (h3 : ∀ j', 1 ≤ j' → j' < j0 → ¬ itsN l c j' = fwN l c) : splN l c = j0 := spF_at h0 (l - 1) 1 h1 (by omega) h3
