/-! which ENTRIES HANG on one: the class; both for the reference -/
theorem fwM_at (T : SP) (x : Nat) : ∀ (n j m : Nat), j < n → fwM T x (n + m) j = fwM T x n j
  | n, j, 0, _ => rfl
  | n, j, m + 1, h => by
    show (if j = n + m then _ else fwM T x (n + m) j) = _
    rw [if_neg (by omega)]
    exact fwM_at T x n j m h
theorem fwM_no (T : SP) (x : Nat) : ∀ (n j : Nat), n ≤ j → fwM T x n j = false
  | 0, j, _ => rfl
  | n + 1, j, h => by
    show (if j = n then _ else fwM T x n j) = false
    rw [if_neg (by omega)]
    exact fwM_no T x n j (by omega)
/-- an ENTRY HANGS on an INPUT as its bits say -/
theorem fwM_bit {G T : SP} {e k : Nat} (hk4 : k < 4) (h4 : G 3 2 ≤ 4) (he : e ≤ 400) (hE : ∀ i, i < e → okE G T i) : ∀ (n j : Nat), n ≤ e → j < n → fwM T (1000 + k) n j = (T 18 j).testBit k
  | 0, j, _, h => absurd h (by omega)
  | n + 1, j, hn, h => by
    show (if j = n then _ else fwM T (1000 + k) n j) = _
    by_cases hj : j = n
    · subst hj
      rw [if_pos rfl]
      have hEj := hE j (by omega)
      have sb : ∀ s, okS G j s → (decide (s = 1000 + k) || fwM T (1000 + k) j s) = (sbT (T 18) s).testBit k := by
        intro s hs
        simp only [sbT]
        rcases hs with h0 | h0 | h0
        · subst h0
          rw [if_pos rfl, fwM_no _ _ _ _ (by omega), Nat.zero_testBit, Bool.or_false]
          exact decide_eq_false (by omega)
        · rw [if_neg (by omega), if_neg (by omega), decide_eq_false (by omega), Bool.false_or]
          exact fwM_bit hk4 h4 he hE j s (by omega) h0
        · rw [if_neg (by omega), if_pos h0.1, fwM_no _ _ _ _ (by omega), Bool.or_false, Nat.testBit_two_pow]
          by_cases hk : s = 1000 + k
          · rw [decide_eq_true hk, decide_eq_true (by omega)]
          · rw [decide_eq_false hk, decide_eq_false (by omega)]
      rw [decide_eq_false (by omega), Bool.false_or, sb _ hEj.2.2.2.2.2.2.1, sb _ hEj.2.2.2.2.2.2.2.1, hEj.2.2.2.2.2.2.2.2, Nat.testBit_or]
    · rw [if_neg hj]
      exact fwM_bit hk4 h4 he hE n j (by omega) (by omega)
/-- what the class goes through: nothing below x, x itself, then as the reference -/
theorem fwM_lo {G T : SP} {e x : Nat} (h4 : G 3 2 ≤ 4) (hx : x < e) (he : e ≤ 400) (hE : ∀ i, i < e → okE G T i) : ∀ (n j : Nat), n ≤ x → fwM T x n j = false
  | 0, j, _ => rfl
  | n + 1, j, hn => by
    show (if j = n then _ else fwM T x n j) = _
    have hEn := hE n (by omega)
    have a1 := hEn.2.2.2.2.2.2.1
    have a2 := hEn.2.2.2.2.2.2.2.1
    simp only [okS] at a1 a2
    by_cases hj : j = n
    · rw [if_pos hj, fwM_lo h4 hx he hE n _ (by omega), fwM_lo h4 hx he hE n _ (by omega), decide_eq_false (by omega), decide_eq_false (by omega), decide_eq_false (by omega)]
      rfl
    · rw [if_neg hj]
      exact fwM_lo h4 hx he hE n j (by omega)
section HB
variable {d : Nat} {I : HI} {J : HJ} {R : HR} {o : Nat} {G T : SP}
theorem t_markForward {x : Nat} {Q : Unit → HI → Prop} (hs : Stat R) (ho : isX9 o) (h4 : G 3 2 ≤ 4) (hF : finT G T) (hT : tpR I o T (T 0 4)) (hx : x < T 0 4) (h : ∀ I', (∀ a, ¬ a = o + 10 → I' a = I a) → mkR I' (o + 10) (fwT T x) 400 → Q () I') : Wc fv (d + 2) M_X9_markForward [.ref o, .int (nI x)] I J R Q := by
  refine ⟨Nat.le_of_ble_eq_true rfl, fun K hK => ?_⟩
  have he := hF.1.2.2.2.1
  have hE := hF.2.2.2.2.1
  have loop : ∀ (m i : Nat) (I1 : HI), i + m = T 0 4 → x < i → (∀ a, ¬ a = o + 10 → I1 a = I a) → mkR I1 (o + 10) (fwM T x i) 400 → K 17 [(0, .ref o), (2, .int (nI i))] [] I1 J R := by
    intro m
    induction m with
    | zero =>
      intro i I1 hi hxi hf hm
      have hie : i = T 0 4 := by omega
      refine g_X9_markForward_17 hK hs ho ?_
      rw [hf o (by omega), hT.1, hie]
      refine ⟨fun _ => h I1 hf ?_, fun hc => absurd (nI_le (Nat.le_refl _) (by omega)) hc⟩
      rw [hie] at hm
      exact hm
    | succ m ih =>
      intro i I1 hi hxi hf hm
      have hEi := hE i (by omega)
      have o14 := hEi.2.2.2.2.2.2.1
      have o15 := hEi.2.2.2.2.2.2.2.1
      refine g_X9_markForward_17 hK hs ho ?_
      rw [hf o (by omega), hT.1]
      refine ⟨fun hc => absurd hc (nI_ge (by omega) (by omega)), fun _ => ⟨fun hc => absurd hc (nI_ge (b := 400) (by omega) (by omega)), fun _ => ⟨i, rfl, by omega, ?_⟩⟩⟩
      rw [hf (o + 6) (by omega), hf (o + 7) (by omega), hT.2.2.2.2.2.2.1 i (by omega), hT.2.2.2.2.2.2.2.1 i (by omega), nI_1]
      have xx : ∀ s, okS G i s → (decide (s < 400) && fwM T x i s) = (decide (s = x) || fwM T x i s) := by
        intro s hs
        simp only [okS] at hs
        by_cases hsx : s = x
        · subst hsx
          have : fwM T s i s = true := by
            have e1 := fwM_at T s (s + 1) s (i - (s + 1)) (by omega)
            rw [show s + 1 + (i - (s + 1)) = i by omega] at e1
            rw [e1]
            show (if s = s then _ else _) = true
            rw [if_pos rfl, decide_eq_true rfl]
            rfl
          rw [this, decide_eq_true (show s < 400 by omega), Bool.or_true]
          rfl
        · rw [decide_eq_false hsx, Bool.false_or]
          by_cases h400 : s < 400
          · rw [decide_eq_true h400, Bool.true_and]
          · rw [decide_eq_false h400, Bool.false_and, fwM_no _ _ _ _ (by omega)]
      have fin : ∀ b : Bool, b = ((decide (T 14 i < 400) && fwM T x i (T 14 i)) || (decide (T 15 i < 400) && fwM T x i (T 15 i))) → K 17 [(0, .ref o), (2, .int (nI (i + 1)))] [] (up I1 (o + 10) i (if b = true then 1 else 0)) J R := by
        intro b hb
        refine ih (i + 1) _ (by omega) (by omega) (fun a ha => (up_ne _ _ _ _ ha).trans (hf a ha)) ?_
        have hb2 : b = (decide (i = x) || (decide (T 14 i = x) || fwM T x i (T 14 i)) || (decide (T 15 i = x) || fwM T x i (T 15 i))) := by
          rw [decide_eq_false (by omega), Bool.false_or, ← xx _ o14, ← xx _ o15]
          exact hb
        intro j hj
        show _ = (if (if j = i then _ else fwM T x i j) = true then (1 : Int32) else 0)
        rw [← hb2, up_ap]
        by_cases hji : j = i
        · rw [if_pos ⟨rfl, hji⟩, if_pos hji]
        · rw [if_neg (fun q => hji q.2), if_neg hji]
          exact hm j hj
      refine t_isMarked hs ho (okN_S h4 (by omega) o14) hm ⟨fun hb => ?_, fun hb => ?_⟩
      · exact fin true (by rw [hb]; rfl)
      · refine t_isMarked hs ho (okN_S h4 (by omega) o15) hm ⟨fun hb2 => ?_, fun hb2 => ?_⟩
        · exact fin false (by rw [hb, hb2]; rfl)
        · exact fin true (by rw [hb, hb2]; rfl)
  refine g_X9_markForward_0 hK hs ho ?_
  refine t_unmark hs ho (fun I1 f1 m1 => ?_)
  rw [← sI_n (show x ≠ 5000 by omega)]
  refine t_mark hs ho (Or.inl (by omega)) m1 (fun I2 f2 m2 => ?_)
  rw [sI_n (show x ≠ 5000 by omega), nI_1, if_neg (nI_pos (by omega))]
  refine loop (T 0 4 - (x + 1)) (x + 1) I2 (by omega) (by omega) (fun a ha => (f2 a ha).trans (f1 a ha)) ?_
  intro j hj
  rw [m2 j hj]
  show (if seM (fun _ => false) x j = true then (1 : Int32) else 0) = (if (if j = x then _ else fwM T x x j) = true then 1 else 0)
  by_cases hjx : j = x
  · rw [if_pos hjx, decide_eq_true rfl]
    simp [seM, hjx]
  · rw [if_neg hjx, fwM_lo h4 hx he hE x j (Nat.le_refl _)]
    simp [seM, hjx]
end HB
