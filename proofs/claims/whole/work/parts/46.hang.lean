/-! which ENTRIES a value HANGS on: the class -/
def mkR (I : HI) (a : Nat) (M : Nat → Bool) (n : Nat) : Prop := ∀ j, j < n → I a j = (if M j = true then 1 else 0)
def seM (M : Nat → Bool) (s : Nat) : Nat → Bool := fun j => M j || decide (j = s)
/-- from above: what is marked marks what it was made of -/
def bkF (T : SP) : Nat → (Nat → Bool) → (Nat → Bool)
  | 0, M => M
  | i + 1, M => bkF T i (if M i = true then seM (seM M (T 14 i)) (T 15 i) else M)
def bkT (T : SP) (s : Nat) : Nat → Bool := bkF T (T 0 4) (seM (fun _ => false) s)
/-- from below: what is made of what is marked is marked -/
def fwM (T : SP) (x : Nat) : Nat → Nat → Bool
  | 0 => fun _ => false
  | n + 1 => fun j => if j = n then (decide (n = x) || (decide (T 14 n = x) || fwM T x n (T 14 n)) || (decide (T 15 n = x) || fwM T x n (T 15 n))) else fwM T x n j
def fwT (T : SP) (x : Nat) : Nat → Bool := fwM T x (T 0 4)
theorem mkR_ne {I : HI} {a b k n : Nat} {x : Int32} {M : Nat → Bool} (h : ¬ a = b) : mkR (up I b k x) a M n ↔ mkR I a M n := by simp only [mkR, up_ne I b k x h]
theorem mkR_le {I : HI} {a n m : Nat} {M : Nat → Bool} (hm : m ≤ n) (h : mkR I a M n) : mkR I a M m := fun j hj => h j (by omega)
theorem mkR_se {I : HI} {a n s : Nat} {M : Nat → Bool} (h : mkR I a M n) : mkR (up I a s 1) a (seM M s) n := by
  intro j hj
  by_cases hk : j = s
  · simp [up_ap, hk, seM]
  · simp [up_ap, hk, h j hj, seM]
theorem mkR_no {I : HI} {a n s : Nat} {M : Nat → Bool} (hs : n ≤ s) (h : mkR I a M n) : mkR I a (seM M s) n := by
  intro j hj
  have : ¬ j = s := by omega
  simp [h j hj, seM, this]
theorem mkR_push {I : HI} {a n : Nat} {b : Bool} {M : Nat → Bool} (h : mkR I a M n) : mkR (up I a n (if b = true then 1 else 0)) a (fun j => if j = n then b else M j) (n + 1) := by
  intro j hj
  by_cases hk : j = n
  · simp [up_ap, hk]
  · simp [up_ap, hk, h j (by omega)]
theorem mkR_z {I : HI} {a n k : Nat} {M : Nat → Bool} (h : mkR I a M n) (hk : k < n) : (I a k = 0) ↔ M k = false := by
  rw [h k hk]
  cases M k <;> simp
def okN (s : Nat) : Prop := s < 400 ∨ (1000 ≤ s ∧ s ≤ 5000)
theorem okN_S {G : SP} {e s : Nat} (h4 : G 3 2 ≤ 4) (he : e ≤ 400) (h : okS G e s) : okN s := by
  simp only [okS, okN] at h ⊢
  omega
theorem m1 (x : Int32) : x + (-1) = x - 1 := (Int32.sub_eq_add_neg x 1).symm
theorem nI_s1 (k : Nat) : nI (k + 1) - 1 = nI k := sub1 (n := k + 1) (by omega)
theorem nI_01 : nI 0 - 1 < 0 := by decide
section HA
variable {d : Nat} {I : HI} {J : HJ} {R : HR} {o : Nat} {G T : SP}
theorem t_unmark {Q : Unit → HI → Prop} (hs : Stat R) (ho : isX9 o) (h : ∀ I', (∀ a, ¬ a = o + 10 → I' a = I a) → mkR I' (o + 10) (fun _ => false) 400 → Q () I') : Wc fv (d + 1) M_X9_unmark [.ref o] I J R Q := by
  refine ⟨Nat.le_of_ble_eq_true rfl, fun K hK => ?_⟩
  have loop : ∀ (m i : Nat) (I1 : HI), i + m = 400 → (∀ a, ¬ a = o + 10 → I1 a = I a) → mkR I1 (o + 10) (fun _ => false) i → K 2 [(0, .ref o), (1, .int (nI i))] [] I1 J R := by
    intro m
    induction m with
    | zero =>
      intro i I1 hi hf hm
      have : i = 400 := by omega
      subst this
      exact g_X9_unmark_2 hK hs ho ⟨fun _ => h I1 hf hm, fun hc => absurd (by decide) hc⟩
    | succ m ih =>
      intro i I1 hi hf hm
      refine g_X9_unmark_2 hK hs ho ⟨fun hc => absurd hc (nI_ge (b := 400) (by omega) (by omega)), fun _ => ⟨i, rfl, by omega, ?_⟩⟩
      rw [nI_1]
      refine ih (i + 1) _ (by omega) (fun a ha => (up_ne _ _ _ _ ha).trans (hf a ha)) ?_
      have := mkR_push (b := false) hm
      intro j hj
      have h1 := this j hj
      by_cases hk : j = i
      · simpa [hk] using h1
      · simpa [hk] using h1
  exact g_X9_unmark_0 hK hs ho (loop 400 0 I (by omega) (fun _ _ => rfl) (fun j hj => absurd hj (by omega)))
theorem t_mark {s : Nat} {M : Nat → Bool} {Q : Unit → HI → Prop} (hs : Stat R) (ho : isX9 o) (hN : okN s) (hM : mkR I (o + 10) M 400) (h : ∀ I', (∀ a, ¬ a = o + 10 → I' a = I a) → mkR I' (o + 10) (seM M s) 400 → Q () I') : Wc fv (d + 1) M_X9_mark [.ref o, .int (sI s)] I J R Q := by
  refine e_X9_mark hs ho ?_
  by_cases h5 : s = 5000
  · subst h5
    exact ⟨fun _ => h I (fun _ _ => rfl) (mkR_no (by decide) hM), fun hc => absurd (by decide) hc⟩
  · rw [sI_n h5]
    have hlt : s < 2 ^ 31 := by simp only [okN] at hN; omega
    refine ⟨fun hc => absurd hc (nI_pos hlt), fun _ => ?_⟩
    rcases hN with h4 | h4
    · refine ⟨fun hc => absurd hc (nI_ge (b := 400) h4 (by omega)), fun _ => ⟨s, rfl, h4, ?_⟩⟩
      exact h _ (fun a ha => up_ne _ _ _ _ ha) (mkR_se hM)
    · exact ⟨fun _ => h I (fun _ _ => rfl) (mkR_no (by omega) hM), fun hc => absurd (nI_le (a := 400) (by omega) (by omega)) hc⟩
theorem t_isMarked {s : Nat} {M : Nat → Bool} {Q : Bool → Prop} (hs : Stat R) (ho : isX9 o) (hN : okN s) (hM : mkR I (o + 10) M 400) (h : Q (decide (s < 400) && M s)) : Wp fb (d + 1) M_X9_isMarked [.ref o, .int (sI s)] I J R Q := by
  refine e_X9_isMarked hs ho ?_
  by_cases h5 : s = 5000
  · subst h5
    exact ⟨fun _ => h, fun hc => absurd (by decide) hc⟩
  · rw [sI_n h5]
    have hlt : s < 2 ^ 31 := by simp only [okN] at hN; omega
    refine ⟨fun hc => absurd hc (nI_pos hlt), fun _ => ?_⟩
    rcases hN with h4 | h4
    · refine ⟨fun hc => absurd hc (nI_ge (b := 400) h4 (by omega)), fun _ => ⟨s, rfl, h4, ?_⟩⟩
      rw [mkR_z hM h4]
      rw [decide_eq_true h4, Bool.true_and] at h
      refine ⟨fun hc => ?_, fun hc => ?_⟩
      · rw [hc] at h; exact h
      · rw [Bool.not_eq_false] at hc; rw [hc] at h; exact h
    · rw [decide_eq_false (by omega), Bool.false_and] at h
      exact ⟨fun _ => h, fun hc => absurd (nI_le (a := 400) (by omega) (by omega)) hc⟩
theorem t_isMarkedN {k : Nat} {M : Nat → Bool} {Q : Bool → Prop} (hs : Stat R) (ho : isX9 o) (hN : k < 400) (hM : mkR I (o + 10) M 400) (h : Q (M k)) : Wp fb (d + 1) M_X9_isMarked [.ref o, .int (nI k)] I J R Q := by
  rw [← sI_n (show k ≠ 5000 by omega)]
  refine t_isMarked hs ho (Or.inl hN) hM ?_
  rw [decide_eq_true hN, Bool.true_and]
  exact h
theorem t_markBack {s : Nat} {Q : Unit → HI → Prop} (hs : Stat R) (ho : isX9 o) (h4 : G 3 2 ≤ 4) (hF : finT G T) (hT : tpR I o T (T 0 4)) (hN : okN s) (h : ∀ I', (∀ a, ¬ a = o + 10 → I' a = I a) → mkR I' (o + 10) (bkT T s) 400 → Q () I') : Wc fv (d + 2) M_X9_markBack [.ref o, .int (sI s)] I J R Q := by
  refine ⟨Nat.le_of_ble_eq_true rfl, fun K hK => ?_⟩
  have he := hF.1.2.2.2.1
  have hE := hF.2.2.2.2.1
  have loop : ∀ (i : Nat) (I1 : HI) (M : Nat → Bool), i ≤ T 0 4 → (∀ a, ¬ a = o + 10 → I1 a = I a) → mkR I1 (o + 10) M 400 → bkF T i M = bkT T s → K 22 [(0, .ref o), (2, .int (nI i - 1))] [] I1 J R := by
    intro i
    induction i with
    | zero =>
      intro I1 M hi hf hm hb
      refine g_X9_markBack_22 hK hs ho ⟨fun _ => h I1 hf ?_, fun hc => absurd nI_01 hc⟩
      rw [← hb]
      exact hm
    | succ i ih =>
      intro I1 M hi hf hm hb
      rw [nI_s1]
      have hEi := hE i (by omega)
      refine g_X9_markBack_22 hK hs ho ⟨fun hc => absurd hc (nI_pos (by omega)), fun _ => ⟨i, rfl, by omega, ?_⟩⟩
      rw [mkR_z hm (by omega), m1]
      simp only [bkF] at hb
      refine ⟨fun hc => ?_, fun hc => ?_⟩
      · rw [if_neg (by rw [hc]; decide)] at hb
        exact ih I1 M (by omega) hf hm hb
      · rw [Bool.not_eq_false] at hc
        rw [if_pos hc] at hb
        rw [hf (o + 6) (by omega), hT.2.2.2.2.2.2.1 i (by omega)]
        refine t_mark hs ho (okN_S h4 (by omega) hEi.2.2.2.2.2.2.1) hm (fun I2 f2 m2 => ?_)
        rw [f2 (o + 7) (by omega), hf (o + 7) (by omega), hT.2.2.2.2.2.2.2.1 i (by omega)]
        refine t_mark hs ho (okN_S h4 (by omega) hEi.2.2.2.2.2.2.2.1) m2 (fun I3 f3 m3 => ?_)
        exact ih I3 _ (by omega) (fun a ha => (f3 a ha).trans ((f2 a ha).trans (hf a ha))) m3 hb
  refine g_X9_markBack_0 hK hs ho ?_
  refine t_unmark hs ho (fun I1 f1 m1 => ?_)
  refine t_mark hs ho hN m1 (fun I2 f2 m2 => ?_)
  rw [f2 o (by omega), f1 o (by omega), hT.1, if_neg (show ¬ (400 : Int32) < nI (T 0 4) from nI_nlt (a := 400) (b := T 0 4) he (by omega))]
  exact loop (T 0 4) I2 _ (Nat.le_refl _) (fun a ha => (f2 a ha).trans (f1 a ha)) m2 rfl
end HA
