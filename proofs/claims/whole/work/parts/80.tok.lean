/-! THE TEXT: its TOKENS. B the bytes, n how many. A TOKEN: 0 which (0 the end, 1 a word of at most four letters, 2 a number, 3 a sign, 4 none, 5 alias), 1 its value, 2 where it begins, 3 where it ends. -/
abbrev RS : Type := Except (Nat × Nat) SP
def spn (A : Nat → Bool) : Nat → Nat → Nat
  | 0, p => p
  | m + 1, p => if A p = true then spn A m (p + 1) else p
theorem spn_ge (A : Nat → Bool) : ∀ (m p : Nat), p ≤ spn A m p ∧ spn A m p ≤ p + m
  | 0, p => ⟨Nat.le_refl _, Nat.le_refl _⟩
  | m + 1, p => by
    simp only [spn]
    split
    · have := spn_ge A m (p + 1)
      omega
    · omega
theorem spn_in (A : Nat → Bool) : ∀ (m p j : Nat), p ≤ j → j < spn A m p → A j = true
  | 0, p, j, h1, h2 => by simp only [spn] at h2; omega
  | m + 1, p, j, h1, h2 => by
    simp only [spn] at h2
    split at h2
    · rename_i h
      by_cases hj : j = p
      · rw [hj]; exact h
      · exact spn_in A m (p + 1) j (by omega) h2
    · omega
def blA (B : Nat → Nat) (n p : Nat) : Bool := decide (p < n ∧ (B p = 32 ∨ B p = 10))
def smA (B : Nat → Nat) (n p : Nat) : Bool := decide (p < n ∧ 97 ≤ B p ∧ B p ≤ 122)
def dgA (B : Nat → Nat) (n p : Nat) : Bool := decide (p < n ∧ 48 ≤ B p ∧ B p ≤ 57)
def mkB (b : Nat) : Bool := decide (b = 59 ∨ b = 61 ∨ b = 60 ∨ b = 91 ∨ b = 93 ∨ b = 40 ∨ b = 41 ∨ b = 43 ∨ b = 45 ∨ b = 42 ∨ b = 47)
def wvF (B : Nat → Nat) (s : Nat) : Nat → Nat
  | 0 => 0
  | l + 1 => 27 * wvF B s l + (B (s + l) - 96)
def c5F (B : Nat → Nat) (s : Nat) : Nat → Nat
  | 0 => 0
  | l + 1 => 32 * c5F B s l + (B (s + l) - 96)
def nvF (B : Nat → Nat) (s : Nat) : Nat → Nat
  | 0 => 0
  | l + 1 => if 10000 < 10 * nvF B s l + (B (s + l) - 48) then 10000 else 10 * nvF B s l + (B (s + l) - 48)
def alB (B : Nat → Nat) (s : Nat) : Bool := decide (B s = 97 ∧ B (s + 1) = 108 ∧ B (s + 2) = 105 ∧ B (s + 3) = 97 ∧ B (s + 4) = 115)
def tkT (k v s e : Nat) : Nat → Nat := fun j => if j = 0 then k else if j = 1 then v else if j = 2 then s else e
def wdT (B : Nat → Nat) (s e : Nat) : Nat → Nat := if e - s ≤ 4 then tkT 1 (wvF B s (e - s)) s e else if e - s = 5 ∧ alB B s = true then tkT 5 0 s e else tkT 4 0 s e
def tkA (B : Nat → Nat) (n s : Nat) : Nat → Nat :=
  if s < n then
    (if smA B n s = true then wdT B s (spn (smA B n) (n - s) s)
     else if dgA B n s = true then tkT 2 (nvF B s (spn (dgA B n) (n - s) s - s)) s (spn (dgA B n) (n - s) s)
     else if mkB (B s) = true then tkT 3 (B s) s (s + 1) else tkT 4 0 s (s + 1))
  else tkT 0 0 s s
def tkF (B : Nat → Nat) (n p : Nat) : Nat → Nat := tkA B n (spn (blA B n) (n - p) p)
/-- words by 27 and by 32 -/
def cv (w : Nat) : Nat := if h : w = 0 then 0 else 32 * cv (w / 27) + w % 27
  termination_by w
  decreasing_by omega
theorem cv_s {w d : Nat} (h1 : 1 ≤ d) (h2 : d ≤ 26) : cv (27 * w + d) = 32 * cv w + d := by
  rw [cv, dif_neg (by omega), show (27 * w + d) / 27 = w by omega, show (27 * w + d) % 27 = d by omega]
theorem cv_0 : cv 0 = 0 := by rw [cv, dif_pos rfl]
theorem cv_inj : ∀ (a b : Nat), cv a = cv b → a = b := by
  intro a
  induction a using Nat.strongRecOn with
  | ind a ih =>
    intro b h
    by_cases ha : a = 0
    · subst ha
      rw [cv_0] at h
      by_cases hb : b = 0
      · exact hb.symm
      · exfalso
        rw [cv, dif_neg hb] at h
        have h1 : cv (b / 27) = 0 := by omega
        have h2 : b % 27 = 0 := by omega
        have h3 : b / 27 ≠ 0 := by omega
        have : ∀ c, c ≠ 0 → cv c ≠ 0 := by
          intro c
          induction c using Nat.strongRecOn with
          | ind c ihc =>
            intro hc h
            rw [cv, dif_neg hc] at h
            have := ihc (c / 27) (by omega) (by omega)
            omega
        exact this _ h3 h1
    · by_cases hb : b = 0
      · subst hb
        exfalso
        rw [cv_0] at h
        have : ∀ c, c ≠ 0 → cv c ≠ 0 := by
          intro c
          induction c using Nat.strongRecOn with
          | ind c ihc =>
            intro hc h
            rw [cv, dif_neg hc] at h
            have := ihc (c / 27) (by omega) (by omega)
            omega
        exact this _ ha h
      · rw [cv, dif_neg ha, cv.eq_1 b, dif_neg hb] at h
        have := ih (a / 27) (by omega) (b / 27) (by omega)
        omega
theorem cv_wv {B : Nat → Nat} {s : Nat} : ∀ (l : Nat), (∀ j, j < l → 97 ≤ B (s + j) ∧ B (s + j) ≤ 122) → cv (wvF B s l) = c5F B s l
  | 0, _ => cv_0
  | l + 1, h => by
    have := h l (by omega)
    simp only [wvF, c5F]
    rw [cv_s (by omega) (by omega), cv_wv l (fun j hj => h j (by omega))]
theorem wv_lt {B : Nat → Nat} {s : Nat} : ∀ (l : Nat), (∀ j, j < l → 97 ≤ B (s + j) ∧ B (s + j) ≤ 122) → wvF B s l < 27 ^ l
  | 0, _ => by simp [wvF]
  | l + 1, h => by
    have := h l (by omega)
    have := wv_lt l (fun j hj => h j (by omega))
    simp only [wvF, Nat.pow_succ]
    omega
theorem c5_lt {B : Nat → Nat} {s : Nat} : ∀ (l : Nat), (∀ j, j < l → 97 ≤ B (s + j) ∧ B (s + j) ≤ 122) → c5F B s l < 32 ^ l
  | 0, _ => by simp [c5F]
  | l + 1, h => by
    have := h l (by omega)
    have := c5_lt l (fun j hj => h j (by omega))
    simp only [c5F, Nat.pow_succ]
    omega
theorem nv_le (B : Nat → Nat) (s : Nat) : ∀ l, nvF B s l ≤ 10000
  | 0 => by simp [nvF]
  | l + 1 => by
    simp only [nvF]
    split <;> omega
/-- what holds of a TOKEN -/
def okT (n : Nat) (t : Nat → Nat) : Prop := t 2 ≤ t 3 ∧ t 3 ≤ n ∧ (¬ t 0 = 0 → t 2 < t 3) ∧ (t 0 = 2 → t 1 ≤ 10000) ∧ (t 0 = 1 → t 1 < 531441) ∧ (t 0 = 3 → t 1 < 128) ∧ t 0 ≤ 5
theorem mk_lt {b : Nat} (h : mkB b = true) : b < 128 := by
  simp only [mkB, decide_eq_true_eq] at h
  omega
theorem spn_lt {A : Nat → Bool} {m p : Nat} (h : A p = true) (hm : 0 < m) : p < spn A m p := by
  obtain ⟨m, rfl⟩ : ∃ k, m = k + 1 := ⟨m - 1, by omega⟩
  simp only [spn, if_pos h]
  have := spn_ge A m (p + 1)
  omega
theorem smA_t {B : Nat → Nat} {n p : Nat} (h : smA B n p = true) : p < n ∧ 97 ≤ B p ∧ B p ≤ 122 := of_decide_eq_true h
theorem tkA_ok (B : Nat → Nat) (n s : Nat) (hs : s ≤ n) : okT n (tkA B n s) ∧ tkA B n s 2 = s := by
  simp only [tkA]
  split
  · rename_i h
    split
    · rename_i h1
      have g1 := spn_ge (smA B n) (n - s) s
      have g2 := spn_lt (m := n - s) h1 (by omega)
      have g3 : ∀ j, j < spn (smA B n) (n - s) s - s → 97 ≤ B (s + j) ∧ B (s + j) ≤ 122 := fun j hj => (smA_t (spn_in (smA B n) (n - s) s (s + j) (by omega) (by omega))).2
      generalize spn (smA B n) (n - s) s = e at g1 g2 g3
      simp only [wdT]
      split
      · rename_i h2
        refine ⟨⟨?_, ?_, ?_, ?_, ?_, ?_, ?_⟩, rfl⟩
        · show s ≤ e; omega
        · show e ≤ n; omega
        · intro _; show s < e; omega
        · intro h; exact absurd h (by show ¬ (1 : Nat) = 2; decide)
        · intro _
          show wvF B s (e - s) < 531441
          have := wv_lt (e - s) g3
          have : 27 ^ (e - s) ≤ 27 ^ 4 := Nat.pow_le_pow_right (by decide) h2
          omega
        · intro h; exact absurd h (by show ¬ (1 : Nat) = 3; decide)
        · show 1 ≤ 5; decide
      · split
        · refine ⟨⟨?_, ?_, ?_, ?_, ?_, ?_, ?_⟩, rfl⟩
          · show s ≤ e; omega
          · show e ≤ n; omega
          · intro _; show s < e; omega
          · intro h; exact absurd h (by show ¬ (5 : Nat) = 2; decide)
          · intro h; exact absurd h (by show ¬ (5 : Nat) = 1; decide)
          · intro h; exact absurd h (by show ¬ (5 : Nat) = 3; decide)
          · show 5 ≤ 5; decide
        · refine ⟨⟨?_, ?_, ?_, ?_, ?_, ?_, ?_⟩, rfl⟩
          · show s ≤ e; omega
          · show e ≤ n; omega
          · intro _; show s < e; omega
          · intro h; exact absurd h (by show ¬ (4 : Nat) = 2; decide)
          · intro h; exact absurd h (by show ¬ (4 : Nat) = 1; decide)
          · intro h; exact absurd h (by show ¬ (4 : Nat) = 3; decide)
          · show 4 ≤ 5; decide
    · split
      · rename_i h1
        have g1 := spn_ge (dgA B n) (n - s) s
        have g2 := spn_lt (m := n - s) h1 (by omega)
        generalize spn (dgA B n) (n - s) s = e at g1 g2
        refine ⟨⟨?_, ?_, ?_, ?_, ?_, ?_, ?_⟩, rfl⟩
        · show s ≤ e; omega
        · show e ≤ n; omega
        · intro _; show s < e; omega
        · intro _; exact nv_le _ _ _
        · intro h; exact absurd h (by show ¬ (2 : Nat) = 1; decide)
        · intro h; exact absurd h (by show ¬ (2 : Nat) = 3; decide)
        · show 2 ≤ 5; decide
      · split
        · rename_i h3
          refine ⟨⟨?_, ?_, ?_, ?_, ?_, ?_, ?_⟩, rfl⟩
          · show s ≤ s + 1; omega
          · show s + 1 ≤ n; omega
          · intro _; show s < s + 1; omega
          · intro h; exact absurd h (by show ¬ (3 : Nat) = 2; decide)
          · intro h; exact absurd h (by show ¬ (3 : Nat) = 1; decide)
          · intro _; exact mk_lt h3
          · show 3 ≤ 5; decide
        · refine ⟨⟨?_, ?_, ?_, ?_, ?_, ?_, ?_⟩, rfl⟩
          · show s ≤ s + 1; omega
          · show s + 1 ≤ n; omega
          · intro _; show s < s + 1; omega
          · intro h; exact absurd h (by show ¬ (4 : Nat) = 2; decide)
          · intro h; exact absurd h (by show ¬ (4 : Nat) = 1; decide)
          · intro h; exact absurd h (by show ¬ (4 : Nat) = 3; decide)
          · show 4 ≤ 5; decide
  · refine ⟨⟨?_, ?_, ?_, ?_, ?_, ?_, ?_⟩, rfl⟩
    · show s ≤ s; omega
    · show s ≤ n; omega
    · intro h; exact absurd rfl h
    · intro h; exact absurd h (by show ¬ (0 : Nat) = 2; decide)
    · intro h; exact absurd h (by show ¬ (0 : Nat) = 1; decide)
    · intro h; exact absurd h (by show ¬ (0 : Nat) = 3; decide)
    · show 0 ≤ 5; decide
theorem tkF_ok {B : Nat → Nat} {n p : Nat} (hp : p ≤ n) : okT n (tkF B n p) ∧ p ≤ tkF B n p 2 := by
  have g := spn_ge (blA B n) (n - p) p
  have := tkA_ok B n (spn (blA B n) (n - p) p) (by omega)
  refine ⟨this.1, ?_⟩
  simp only [tkF]
  rw [this.2]
  exact g.1
