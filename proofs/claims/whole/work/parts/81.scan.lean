/-! the class's Scanner -/
def bI (b : Nat) : Int32 := (nI b).toInt8.toInt32
theorem bI_toInt {b : Nat} (h : b < 256) : (bI b).toInt = if b < 128 then (b : Int) else (b : Int) - 256 := by
  have : ∀ b : Fin 256, (bI b.val).toInt = if b.val < 128 then (b.val : Int) else (b.val : Int) - 256 := by decide +kernel
  exact this ⟨b, h⟩
theorem bI_eq {b k : Nat} (hb : b < 256) (hk : k < 128) : (bI b = nI k) ↔ b = k := by
  rw [← Int32.toInt_inj, bI_toInt hb, nI_toInt (by omega)]
  split <;> omega
theorem bI_lt {b k : Nat} (hb : b < 256) (hk : k < 128) : (bI b < nI k) ↔ (b < k ∨ 128 ≤ b) := by
  rw [Int32.lt_iff_toInt_lt, bI_toInt hb, nI_toInt (by omega)]
  split <;> omega
theorem bI_gt {b k : Nat} (hb : b < 256) (hk : k < 128) : (nI k < bI b) ↔ (k < b ∧ b < 128) := by
  rw [Int32.lt_iff_toInt_lt, bI_toInt hb, nI_toInt (by omega)]
  split <;> omega
theorem bI_n {b : Nat} (hb : b < 128) : bI b = nI b := (bI_eq (by omega) hb).mpr rfl
def ctok (I : HI) (k v : Nat) : Prop :=
  (k = 0 ∧ I 7 3 = 0)
  ∨ (k = 1 ∧ I 7 3 = 1 ∧ I 7 4 = nI (cv v) ∧ I 7 2 - I 7 5 ≤ 4)
  ∨ (k = 2 ∧ I 7 3 = 2 ∧ I 7 4 = nI v)
  ∨ (k = 3 ∧ I 7 3 = 3 ∧ I 7 4 = nI v)
  ∨ (k = 4 ∧ I 7 3 = 3 ∧ ∀ c, mkB c = true → ¬ I 7 4 = nI c)
  ∨ (k = 4 ∧ I 7 3 = 1 ∧ ¬ I 7 2 - I 7 5 ≤ 4 ∧ ((I 7 4).toInt = 0 ∨ 1048576 ≤ (I 7 4).toInt) ∧ ¬ I 7 4 = 1451059)
  ∨ (k = 5 ∧ I 7 3 = 1 ∧ ¬ I 7 2 - I 7 5 ≤ 4 ∧ I 7 4 = 1451059)
def scR (I : HI) (n : Nat) (t : Nat → Nat) : Prop := I 7 1 = nI n ∧ I 7 2 = nI (t 3) ∧ I 7 5 = nI (t 2) ∧ ctok I (t 0) (t 1)
theorem c5_al {B : Nat → Nat} {s : Nat} (h : ∀ j, j < 5 → 97 ≤ B (s + j) ∧ B (s + j) ≤ 122) : (c5F B s 5 = 1451059 ↔ alB B s = true) ∧ 1048576 ≤ c5F B s 5 := by
  have h0 := h 0 (by omega)
  have h1 := h 1 (by omega)
  have h2 := h 2 (by omega)
  have h3 := h 3 (by omega)
  have h4 := h 4 (by omega)
  simp only [c5F, alB, decide_eq_true_eq, Nat.add_zero] at *
  generalize B s = b0 at *
  generalize B (s + 1) = b1 at *
  generalize B (s + 2) = b2 at *
  generalize B (s + 3) = b3 at *
  generalize B (s + 4) = b4 at *
  omega
section CA
variable {d : Nat} {I : HI} {J : HJ} {R : HR} {B : Nat → Nat} {n p : Nat}
theorem t_advance {Q : Unit → HI → Prop} (hs : Stat R) (hn : n ≤ 900) (hp : p ≤ n) (h1 : I 7 1 = nI n) (h2 : I 7 2 = nI p) (hb : ∀ j, j < n → I 1 j = bI (B j)) (hB : ∀ j, B j < 256) (h : ∀ I', (∀ c, ¬ c = 7 → I' c = I c) → scR I' n (tkF B n p) → Q () I') : Wc fv (d + 1) M_X6_advance [.ref 7] I J R Q := by
  refine ⟨Nat.le_of_ble_eq_true rfl, fun K hK => ?_⟩
  have fu : ∀ (I1 : HI) (k : Nat) (x : Int32), (∀ c, ¬ c = 7 → I1 c = I c) → ∀ c, ¬ c = 7 → up I1 7 k x c = I c := fun I1 k x f c hc => (up_ne _ _ _ _ hc).trans (f c hc)
  have wend : ∀ (s l : Nat) (I1 : HI), 1 ≤ l → s + l ≤ n → (∀ c, ¬ c = 7 → I1 c = I c) → I1 7 1 = nI n → I1 7 2 = nI (s + l) → I1 7 5 = nI s → I1 7 3 = 1 → (∀ j, j < l → 97 ≤ B (s + j) ∧ B (s + j) ≤ 122) → (l ≤ 5 → I1 7 4 = nI (c5F B s l)) → (∀ I', (∀ c, ¬ c = 7 → I' c = I c) → scR I' n (wdT B s (s + l)) → Q () I') → K 192 [(0, .ref 7)] [] I1 J R := by
    intro s l I1 hl hsl f1 f2 f3 f4 f5 f6 f7 hq
    refine g_X6_advance_192 hK hs ?_
    have e0 : I1 7 2 - I1 7 5 = nI l := by rw [f3, f4, pk_sub (by omega), show s + l - s = l by omega]
    rw [e0]
    have c5 : (nI l ≤ (5 : Int32)) ↔ l ≤ 5 := nI_leI (b := 5) (by omega) (by decide)
    have c4 : (nI l ≤ (4 : Int32)) ↔ l ≤ 4 := nI_leI (b := 4) (by omega) (by decide)
    rw [c5]
    have el : s + l - s = l := by omega
    refine ⟨fun z => hq _ (fu _ _ _ f1) ?_, fun z => hq _ (fu _ _ _ f1) ?_⟩
    · have f7 := f7 z
      simp only [wdT, el]
      by_cases h4 : l ≤ 4
      · rw [if_pos h4]
        refine ⟨by simp [up_ap, f2], by simp [up_ap, f3, tkT], by simp [up_ap, f4, tkT], Or.inr (Or.inl ⟨rfl, by simp [up_ap, f5], ?_, ?_⟩)⟩
        · rw [up_s, f7]
          show nI _ = nI (cv (wvF B s l))
          rw [cv_wv l f6]
        · rw [up_nk (by decide), up_nk (by decide), e0, c4]
          exact h4
      · rw [if_neg h4]
        have h5 : l = 5 := by omega
        subst h5
        have ha := c5_al f6
        have hlt := c5_lt 5 f6
        by_cases hal : alB B s = true
        · rw [if_pos ⟨rfl, hal⟩]
          refine ⟨by simp [up_ap, f2], by simp [up_ap, f3, tkT], by simp [up_ap, f4, tkT], Or.inr (Or.inr (Or.inr (Or.inr (Or.inr (Or.inr ⟨rfl, by simp [up_ap, f5], ?_, ?_⟩)))))⟩
          · rw [up_nk (by decide), up_nk (by decide), e0, c4]
            exact h4
          · rw [up_s, f7, ha.1.mpr hal]
            rfl
        · rw [if_neg (fun q => hal q.2)]
          refine ⟨by simp [up_ap, f2], by simp [up_ap, f3, tkT], by simp [up_ap, f4, tkT], Or.inr (Or.inr (Or.inr (Or.inr (Or.inr (Or.inl ⟨rfl, by simp [up_ap, f5], ?_, Or.inr ?_, ?_⟩)))))⟩
          · rw [up_nk (by decide), up_nk (by decide), e0, c4]
            exact h4
          · rw [up_s, f7, nI_toInt (by omega)]
            omega
          · rw [up_s, f7]
            intro q
            exact hal (ha.1.mp ((nI_eq (b := 1451059) (by omega) (by decide)).mp q))
    · simp only [wdT, el]
      rw [if_neg (by omega), if_neg (by omega)]
      refine ⟨by simp [up_ap, f2], by simp [up_ap, f3, tkT], by simp [up_ap, f4, tkT], Or.inr (Or.inr (Or.inr (Or.inr (Or.inr (Or.inl ⟨rfl, by simp [up_ap, f5], ?_, Or.inl ?_, ?_⟩)))))⟩
      · rw [up_nk (by decide), up_nk (by decide), e0, c4]
        omega
      · rw [up_s]; rfl
      · rw [up_s]; decide
  have word : ∀ (m s l : Nat) (I1 : HI), 1 ≤ l ∨ (smA B n s = true) → s + l + m = n → (∀ c, ¬ c = 7 → I1 c = I c) → I1 7 1 = nI n → I1 7 2 = nI (s + l) → I1 7 5 = nI s → I1 7 3 = 1 → (∀ j, j < l → 97 ≤ B (s + j) ∧ B (s + j) ≤ 122) → (l ≤ 5 → I1 7 4 = nI (c5F B s l)) → (∀ I', (∀ c, ¬ c = 7 → I' c = I c) → scR I' n (wdT B s (spn (smA B n) m (s + l))) → Q () I') → K 117 [(0, .ref 7)] [] I1 J R := by
    intro m
    induction m with
    | zero =>
      intro s l I1 hl hsl f1 f2 f3 f4 f5 f6 f7 hq
      have l1 : 1 ≤ l := by
        rcases hl with hl | hl
        · exact hl
        · have := (smA_t hl).1
          omega
      simp only [spn] at hq
      refine g_X6_advance_117 hK hs ?_
      rw [f2, f3]
      exact ⟨fun _ => wend s l I1 l1 (by omega) f1 f2 f3 f4 f5 f6 f7 hq, fun z => absurd (nI_le (by omega) (by omega)) z⟩
    | succ m ih =>
      intro s l I1 hl hsl f1 f2 f3 f4 f5 f6 f7 hq
      have hb1 : I1 1 (s + l) = bI (B (s + l)) := by rw [f1 1 (by decide), hb _ (by omega)]
      refine g_X6_advance_117 hK hs ?_
      rw [f2, f3]
      refine ⟨fun z => absurd z (nI_ge (by omega) (by omega)), fun _ => ⟨s + l, rfl, by omega, ?_⟩⟩
      rw [hb1]
      have q1 : (bI (B (s + l)) < (97 : Int32)) ↔ (B (s + l) < 97 ∨ 128 ≤ B (s + l)) := bI_lt (hB _) (by decide)
      have q2 : ((122 : Int32) < bI (B (s + l))) ↔ (122 < B (s + l) ∧ B (s + l) < 128) := bI_gt (hB _) (by decide)
      rw [q1, q2]
      simp only [spn] at hq
      have stop : ¬ (97 ≤ B (s + l) ∧ B (s + l) ≤ 122) → K 192 [(0, .ref 7)] [] I1 J R := by
        intro hz
        have hz2 : smA B n (s + l) = false := decide_eq_false (fun q => hz q.2)
        rw [hz2, if_neg (by decide)] at hq
        have l1 : 1 ≤ l := by
          rcases hl with hl | hl
          · exact hl
          · rcases Nat.eq_zero_or_pos l with h0 | h0
            · subst h0
              rw [Nat.add_zero] at hz2
              rw [hz2] at hl
              cases hl
            · exact h0
        exact wend s l I1 l1 (by omega) f1 f2 f3 f4 f5 f6 f7 hq
      refine ⟨fun z => stop (by omega), fun z => ⟨fun z2 => stop (by omega), fun z2 => ?_⟩⟩
      have hz2 : smA B n (s + l) = true := decide_eq_true ⟨by omega, by omega, by omega⟩
      rw [hz2, if_pos rfl] at hq
      rw [bI_n (by omega)]
      refine ih s (l + 1) _ (Or.inl (by omega)) (by omega) (fu _ _ _ (fu _ _ _ f1)) (by simp [up_ap, f2]) (by rw [up_s, nI_1, Nat.add_assoc]) (by simp [up_ap, f4]) (by simp [up_ap, f5]) (fun j hj => ?_) (fun h5 => ?_) (by rw [← Nat.add_assoc]; exact hq)
      · by_cases hjl : j = l
        · subst hjl
          omega
        · exact f6 j (by omega)
      · rw [up_nk (by decide), up_s, f7 (by omega)]
        have hlt := c5_lt l f6
        have hp4 : 32 ^ l ≤ 32 ^ 4 := Nat.pow_le_pow_right (by decide) (by omega)
        have e1 : nI (c5F B s l) <<< ((5 : Int32) &&& 31) = nI (c5F B s l * 2 ^ 5) := pk_shlN _ 5 (by decide) (by omega)
        have e2 : nI (B (s + l)) - (96 : Int32) = nI (B (s + l) - 96) := pk_sub (b := 96) (by omega)
        rw [e1, e2, or_nI, show c5F B s l * 2 ^ 5 = 2 ^ 5 * c5F B s l from Nat.mul_comm _ _, or_sum _ (by omega)]
        rfl
  have numb : ∀ (m s l : Nat) (I1 : HI), s + l + m = n → (∀ c, ¬ c = 7 → I1 c = I c) → I1 7 1 = nI n → I1 7 2 = nI (s + l) → I1 7 5 = nI s → I1 7 3 = 2 → I1 7 4 = nI (nvF B s l) → (∀ I', (∀ c, ¬ c = 7 → I' c = I c) → scR I' n (tkT 2 (nvF B s (spn (dgA B n) m (s + l) - s)) s (spn (dgA B n) m (s + l))) → Q () I') → K 253 [(0, .ref 7)] [] I1 J R := by
    intro m
    induction m with
    | zero =>
      intro s l I1 hsl f1 f2 f3 f4 f5 f6 hq
      simp only [spn] at hq
      refine g_X6_advance_253 hK hs ?_
      rw [f2, f3]
      refine ⟨fun _ => hq I1 f1 ⟨f2, f3, f4, Or.inr (Or.inr (Or.inl ⟨rfl, f5, ?_⟩))⟩, fun z => absurd (nI_le (by omega) (by omega)) z⟩
      rw [f6]
      show nI _ = nI (nvF B s (s + l - s))
      rw [show s + l - s = l by omega]
    | succ m ih =>
      intro s l I1 hsl f1 f2 f3 f4 f5 f6 hq
      have hb1 : I1 1 (s + l) = bI (B (s + l)) := by rw [f1 1 (by decide), hb _ (by omega)]
      refine g_X6_advance_253 hK hs ?_
      rw [f2, f3]
      refine ⟨fun z => absurd z (nI_ge (by omega) (by omega)), fun _ => ⟨s + l, rfl, by omega, ?_⟩⟩
      rw [hb1]
      have q1 : (bI (B (s + l)) < (48 : Int32)) ↔ (B (s + l) < 48 ∨ 128 ≤ B (s + l)) := bI_lt (hB _) (by decide)
      have q2 : ((57 : Int32) < bI (B (s + l))) ↔ (57 < B (s + l) ∧ B (s + l) < 128) := bI_gt (hB _) (by decide)
      rw [q1, q2]
      simp only [spn] at hq
      have stop : ¬ (48 ≤ B (s + l) ∧ B (s + l) ≤ 57) → Q () I1 := by
        intro hz
        have hz2 : dgA B n (s + l) = false := decide_eq_false (fun q => hz q.2)
        rw [hz2, if_neg (by decide)] at hq
        refine hq I1 f1 ⟨f2, f3, f4, Or.inr (Or.inr (Or.inl ⟨rfl, f5, ?_⟩))⟩
        rw [f6]
        show nI _ = nI (nvF B s (s + l - s))
        rw [show s + l - s = l by omega]
      refine ⟨fun z => stop (by omega), fun z => ⟨fun z2 => stop (by omega), fun z2 => ?_⟩⟩
      have hz2 : dgA B n (s + l) = true := decide_eq_true ⟨by omega, by omega, by omega⟩
      rw [hz2, if_pos rfl] at hq
      rw [bI_n (by omega)]
      have hv := nv_le B s l
      have e1 : I1 7 4 * (10 : Int32) + nI (B (s + l)) - 48 = nI (10 * nvF B s l + (B (s + l) - 48)) := by
        rw [f6, show nI (nvF B s l) * (10 : Int32) = nI (nvF B s l * 10) from pk_mul _ 10, nI_add, show (48 : Int32) = nI 48 from rfl, pk_sub (by omega)]
        congr 1
        omega
      rw [e1]
      have c1 : ((9999 : Int32) < nI (10 * nvF B s l + (B (s + l) - 48))) ↔ 9999 < 10 * nvF B s l + (B (s + l) - 48) := nI_ltI (a := 9999) (by decide) (by omega)
      have c2 : (nI (10 * nvF B s l + (B (s + l) - 48)) ≤ (9999 : Int32)) ↔ ¬ (9999 : Int32) < nI (10 * nvF B s l + (B (s + l) - 48)) := by
        rw [Int32.le_iff_toInt_le, Int32.lt_iff_toInt_lt]
        omega
      refine ⟨fun z3 => ?_, fun z3 => ?_⟩
      · have hc : ¬ 9999 < 10 * nvF B s l + (B (s + l) - 48) := fun q => c2.mp z3 (c1.mpr q)
        refine ih s (l + 1) _ (by omega) (fu _ _ _ (fu _ _ _ (fu _ _ _ f1))) (by simp [up_ap, f2]) (by rw [up_s, nI_1, Nat.add_assoc]) (by simp [up_ap, f4]) (by simp [up_ap, f5]) ?_ (by rw [← Nat.add_assoc]; exact hq)
        rw [up_nk (by decide), up_s]
        simp only [nvF]
        rw [if_neg (by omega)]
      · have hc : 9999 < 10 * nvF B s l + (B (s + l) - 48) := Classical.byContradiction fun q => z3 (c2.mpr fun q2 => q (c1.mp q2))
        refine ih s (l + 1) _ (by omega) (fu _ _ _ (fu _ _ _ (fu _ _ _ f1))) (by simp [up_ap, f2]) (by rw [up_s, nI_1, Nat.add_assoc]) (by simp [up_ap, f4]) (by simp [up_ap, f5]) ?_ (by rw [← Nat.add_assoc]; exact hq)
        rw [up_nk (by decide), up_s]
        simp only [nvF]
        by_cases hd : 10000 < 10 * nvF B s l + (B (s + l) - 48)
        · rw [if_pos hd]
          rfl
        · rw [if_neg hd, show 10 * nvF B s l + (B (s + l) - 48) = 10000 by omega]
          rfl
  have start : ∀ (s : Nat) (I1 : HI), s ≤ n → (∀ c, ¬ c = 7 → I1 c = I c) → I1 7 1 = nI n → I1 7 2 = nI s → (∀ I', (∀ c, ¬ c = 7 → I' c = I c) → scR I' n (tkA B n s) → Q () I') → K 52 [(0, .ref 7)] [] I1 J R := by
    intro s I1 hsn f1 f2 f3 hq
    refine g_X6_advance_52 hK hs ?_
    rw [f2, f3]
    simp only [tkA] at hq
    have cl : (nI s < nI n) ↔ s < n := nI_ltI (by omega) (by omega)
    rw [cl]
    refine ⟨fun z => ⟨s, rfl, by omega, ?_⟩, fun z => ?_⟩
    · rw [if_pos z] at hq
      have hb1 : I1 1 s = bI (B s) := by rw [f1 1 (by decide), hb _ z]
      rw [hb1]
      have q1 : (bI (B s) < (97 : Int32)) ↔ (B s < 97 ∨ 128 ≤ B s) := bI_lt (hB _) (by decide)
      have q2 : ((122 : Int32) < bI (B s)) ↔ (122 < B s ∧ B s < 128) := bI_gt (hB _) (by decide)
      rw [q1, q2]
      have other : ¬ (97 ≤ B s ∧ B s ≤ 122) → K 220 [(0, .ref 7)] [] (up (up I1 7 5 (nI s)) 7 4 0) J R := by
        intro hz
        have hz2 : smA B n s = false := decide_eq_false (fun q => hz q.2)
        rw [hz2, if_neg (by decide)] at hq
        refine g_X6_advance_220 hK hs ⟨s, by simp [up_ap, f3], by omega, ?_⟩
        have hb2 : (up (up I1 7 5 (nI s)) 7 4 0) 1 s = bI (B s) := by rw [up_na (by decide), up_na (by decide), hb1]
        rw [hb2]
        have q3 : (bI (B s) < (48 : Int32)) ↔ (B s < 48 ∨ 128 ≤ B s) := bI_lt (hB _) (by decide)
        have q4 : ((57 : Int32) < bI (B s)) ↔ (57 < B s ∧ B s < 128) := bI_gt (hB _) (by decide)
        rw [q3, q4]
        have sign : ¬ (48 ≤ B s ∧ B s ≤ 57) → Q () (up (up (up (up (up I1 7 5 (nI s)) 7 4 0) 7 3 3) 7 4 (bI (B s))) 7 2 ((up (up I1 7 5 (nI s)) 7 4 0) 7 2 + 1)) := by
          intro hy
          have hy2 : dgA B n s = false := decide_eq_false (fun q => hy q.2)
          rw [hy2, if_neg (by decide)] at hq
          refine hq _ (fu _ _ _ (fu _ _ _ (fu _ _ _ (fu _ _ _ (fu _ _ _ f1))))) ?_
          by_cases hm : mkB (B s) = true
          · rw [if_pos hm]
            refine ⟨by simp [up_ap, f2], ?_, by simp [up_ap, tkT], Or.inr (Or.inr (Or.inr (Or.inl ⟨rfl, by simp [up_ap], ?_⟩)))⟩
            · simp [up_ap, f3, tkT, nI_1]
            · rw [up_nk (by decide), up_s, bI_n (mk_lt hm)]
              rfl
          · rw [if_neg hm]
            refine ⟨by simp [up_ap, f2], ?_, by simp [up_ap, tkT], Or.inr (Or.inr (Or.inr (Or.inr (Or.inl ⟨rfl, by simp [up_ap], fun c hc => ?_⟩))))⟩
            · simp [up_ap, f3, tkT, nI_1]
            · rw [up_nk (by decide), up_s, bI_eq (hB _) (mk_lt hc)]
              intro q
              rw [q] at hm
              exact hm hc
        refine ⟨fun y => sign (by omega), fun y => ⟨fun y2 => sign (by omega), fun y2 => ?_⟩⟩
        have hy2 : dgA B n s = true := decide_eq_true ⟨by omega, by omega, by omega⟩
        rw [hy2, if_pos rfl] at hq
        exact numb (n - s) s 0 _ (by omega) (fu _ _ _ (fu _ _ _ (fu _ _ _ f1))) (by simp [up_ap, f2]) (by simp [up_ap, f3]) (by simp [up_ap]) (by simp [up_ap]) (by simp [up_ap, nvF]; rfl) hq
      refine ⟨fun y => other (by omega), fun y => ⟨fun y2 => other (by omega), fun y2 => ?_⟩⟩
      have hy2 : smA B n s = true := decide_eq_true ⟨by omega, by omega, by omega⟩
      rw [hy2, if_pos rfl] at hq
      exact word (n - s) s 0 _ (Or.inr hy2) (by omega) (fu _ _ _ (fu _ _ _ (fu _ _ _ f1))) (by simp [up_ap, f2]) (by simp [up_ap, f3]) (by simp [up_ap]) (by simp [up_ap]) (fun j hj => absurd hj (by omega)) (fun _ => by simp [up_ap, c5F]; rfl) hq
    · rw [if_neg z] at hq
      exact hq _ (fu _ _ _ (fu _ _ _ (fu _ _ _ f1))) ⟨by simp [up_ap, f2], by simp [up_ap, f3, tkT], by simp [up_ap, tkT], Or.inl ⟨rfl, by simp [up_ap]⟩⟩
  have skip : ∀ (m q : Nat) (I1 : HI), q + m = n → (∀ c, ¬ c = 7 → I1 c = I c) → I1 7 1 = nI n → I1 7 2 = nI q → (∀ I', (∀ c, ¬ c = 7 → I' c = I c) → scR I' n (tkA B n (spn (blA B n) m q)) → Q () I') → K 0 [(0, .ref 7)] [] I1 J R := by
    intro m
    induction m with
    | zero =>
      intro q I1 hqm f1 f2 f3 hq
      refine g_X6_advance_0 hK hs ?_
      rw [f2, f3]
      exact ⟨fun _ => start q I1 (by omega) f1 f2 f3 hq, fun z => absurd (nI_le (by omega) (by omega)) z⟩
    | succ m ih =>
      intro q I1 hqm f1 f2 f3 hq
      refine g_X6_advance_0 hK hs ?_
      rw [f2, f3]
      refine ⟨fun z => absurd z (nI_ge (by omega) (by omega)), fun _ => ⟨q, rfl, by omega, ?_⟩⟩
      have hb1 : I1 1 q = bI (B q) := by rw [f1 1 (by decide), hb _ (by omega)]
      have q1 : (bI (B q) = (32 : Int32)) ↔ B q = 32 := bI_eq (hB _) (by decide)
      have q2 : (bI (B q) = (10 : Int32)) ↔ B q = 10 := bI_eq (hB _) (by decide)
      rw [hb1, q1, q2]
      simp only [spn] at hq
      have go : blA B n q = true → K 0 [(0, .ref 7)] [] (up I1 7 2 (nI q + 1)) J R := by
        intro hz
        rw [hz, if_pos rfl] at hq
        exact ih (q + 1) _ (by omega) (fu _ _ _ f1) (by simp [up_ap, f2]) (by rw [up_s, nI_1]) hq
      refine ⟨fun z => go (decide_eq_true ⟨by omega, Or.inl z⟩), fun z => ⟨fun z2 => ?_, fun z2 => go (decide_eq_true ⟨by omega, Or.inr z2⟩)⟩⟩
      have hz2 : blA B n q = false := decide_eq_false (by omega)
      rw [hz2, if_neg (by decide)] at hq
      exact start q I1 (by omega) f1 f2 f3 hq
  exact skip (n - p) p I (by omega) (fun _ _ => rfl) h1 h2 h
end CA
