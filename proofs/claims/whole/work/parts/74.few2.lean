/-! few, split, states: the class -/
def fewV (x1 x2 : Int32) : Int32 := if x1 < 1 then -1 else if 400 < x1 then -1 else if x2 < 0 then -1 else if x2 ≤ 20 then nI (fwN (xN x1) (xN x2)) else -1
def splitV (x1 x2 : Int32) : Int32 := if x1 < 2 then -1 else if 400 < x1 then -1 else if x2 < 1 then -1 else if x2 ≤ 20 then nI (splN (xN x1) (xN x2)) else -1
def stF (l n : Nat) : Nat → Nat → Int32
  | 0, _ => -2
  | m + 1, c => if n < fwN l c then stF l n m (c + 1) else nI c
def statesV (x1 x2 : Int32) : Int32 := if x1 < 1 then -1 else if 400 < x1 then -1 else if 0 ≤ x2 then stF (xN x1) (xN x2) 21 0 else -1
theorem x_ab {x : Int32} {a b : Nat} (ha : a < 2 ^ 31) (hb : b < 2 ^ 31) (h0 : ¬ x < nI a) (h1 : ¬ nI b < x) : ∃ k, x = nI k ∧ xN x = k ∧ a ≤ k ∧ k ≤ b := by
  rw [x_ltn x ha] at h0
  rw [x_nlt x hb] at h1
  exact ⟨x.toInt.toNat, (x_eqn x (by omega)).mpr (by omega), rfl, by omega, by omega⟩
theorem x_ab' {x : Int32} {a b : Nat} (ha : a < 2 ^ 31) (hb : b < 2 ^ 31) (h0 : ¬ x < nI a) (h1 : x ≤ nI b) : ∃ k, x = nI k ∧ xN x = k ∧ a ≤ k ∧ k ≤ b := by
  refine x_ab ha hb h0 ?_
  rw [x_len x hb] at h1
  rw [x_nlt x hb]
  omega
theorem x_a {x : Int32} (h0 : ¬ x < 0) : ∃ k, x = nI k ∧ xN x = k ∧ k < 2 ^ 31 := by
  rw [x_lt0] at h0
  have := Int32.toInt_lt x
  exact ⟨x.toInt.toNat, (x_eqn x (by omega)).mpr (by omega), rfl, by omega⟩
section BU
variable {d : Nat} {I : HI} {J : HJ} {R : HR} {x1 x2 x3 : Int32}
theorem t_fewest {l c : Nat} {Q : Int32 → Prop} (hs : Stat R) (hl : l ≤ 400) (hc : c ≤ 20) (h : Q (nI (fwN l c))) : Wp fi (d + 1) M_X10_fewest [.int (nI l), .int (nI c)] I J R Q := by
  refine ⟨Nat.le_of_ble_eq_true rfl, fun K hK => ?_⟩
  have loop : ∀ (m i : Nat), i + m = l → bC c i < 200000 → K 7 [(0, .int (nI l)), (1, .int (nI c)), (2, .int (nI (smN (fun i => l - bC c i) i))), (3, .long (lN (bC c i))), (5, .int (nI (i + 1)))] [] I J R := by
    intro m
    induction m with
    | zero =>
      intro i hi hb
      have : i = l := by omega
      subst this
      refine g_X10_fewest_7 hK hs ⟨fun _ => ?_, fun z => absurd (nI_lt (by omega) (by omega)) z⟩
      rw [← fwN_n hl (by have := bC_ge c i; omega)]
      exact h
    | succ m ih =>
      intro i hi hb
      refine g_X10_fewest_7 hK hs ⟨fun z => absurd z (nI_nlt (by omega) (by omega)), fun _ => ?_⟩
      rw [nI_l (n := l) (by omega), nI_l (n := i + 1) (by omega)]
      have cl : (lN l ≤ lN (bC c i)) ↔ l ≤ bC c i := pk_lLE (by omega) (by omega)
      rw [cl]
      refine ⟨fun z => ?_, fun z => ⟨?_, ?_⟩⟩
      · rw [← fwN_n (by omega) z]
        exact h
      · intro w
        have := (pk_lEQ (a := i + 1) (b := 0) (by omega) (by decide)).mp w
        omega
      · rw [nI_1 c, nI_add, nI_l (n := c + 1 + (i + 1)) (by omega), lN_i, pk_sub (by omega), nI_add, nI_1, lN_mul]
        have hm : bC c i * (c + 1 + (i + 1)) < 400 * 500 := Nat.mul_lt_mul'' (by omega) (by omega)
        rw [pk_lDiv (by omega) (by omega) (by omega)]
        have e : bC c i * (c + 1 + (i + 1)) / (i + 1) = bC c (i + 1) := by
          rw [← bC_div c i]
          congr 2
          omega
        rw [e]
        refine ih (i + 1) (by omega) ?_
        rw [← e]
        exact Nat.lt_of_le_of_lt (Nat.div_le_self _ _) hm
  refine g_X10_fewest_0 hK hs ?_
  have := loop l 0 (by omega) (by rw [bC_0]; decide)
  rw [bC_0] at this
  exact this
theorem t_firstCut {l c : Nat} {Q : Int32 → Prop} (hs : Stat R) (hl : l ≤ 400) (hc1 : 1 ≤ c) (hc : c ≤ 20) (h : Q (nI (splN l c))) : Wp fi (d + 2) M_X10_firstCut [.int (nI l), .int (nI c)] I J R Q := by
  refine ⟨Nat.le_of_ble_eq_true rfl, fun K hK => ?_⟩
  have loop : ∀ (m j : Nat), 1 ≤ j → (j + m = l ∨ (l ≤ j ∧ m = 0)) → spF l c m j = splN l c → j ≤ 401 → K 8 [(0, .int (nI l)), (1, .int (nI c)), (2, .int (nI (fwN l c))), (3, .int (nI j))] [] I J R := by
    intro m
    induction m with
    | zero =>
      intro j h1 hj he hj2
      simp only [spF] at he
      rw [← he] at h
      exact g_X10_firstCut_8 hK hs ⟨fun _ => h, fun z => absurd (nI_le (by omega) (by omega)) z⟩
    | succ m ih =>
      intro j h1 hj he hj2
      refine g_X10_firstCut_8 hK hs ⟨fun z => absurd z (nI_ge (by omega) (by omega)), fun _ => ?_⟩
      rw [pk_sub (by omega), sub1 hc1]
      refine t_fewest hs (by omega) (by omega) ?_
      refine t_fewest hs (by omega) (by omega) ?_
      have b1 := fwN_le (l - j) (c - 1)
      have b2 := fwN_le j c
      have b3 := fwN_le l c
      have ce : (nI (itsN l c j) = nI (fwN l c)) ↔ itsN l c j = fwN l c := nI_eq (by simp only [itsN]; omega) (by omega)
      rw [nI_add, nI_add, nI_1]
      change (¬ nI (itsN l c j) = nI (fwN l c) → _) ∧ (nI (itsN l c j) = nI (fwN l c) → _)
      rw [ce]
      simp only [spF] at he
      refine ⟨fun z => ?_, fun z => ?_⟩
      · rw [if_neg z] at he
        exact ih (j + 1) (by omega) (by omega) he (by omega)
      · rw [if_pos z] at he
        rw [← he] at h
        exact h
  refine g_X10_firstCut_0 hK hs ?_
  refine t_fewest hs hl hc ?_
  exact loop (l - 1) 1 (by omega) (by omega) rfl (by omega)
theorem c_few {Q : Int32 → Prop} (hs : Stat R) (h : Q (fewV x1 x2)) : Wp fi (d + 2) M_X11_few [.ref 0, .int x1, .int x2] I J R Q := by
  refine e_X11_few hs ?_
  simp only [fewV] at h
  refine ⟨fun q => ?_, fun q => ⟨fun q1 => ?_, fun q1 => ⟨fun q2 => ?_, fun q2 => ⟨fun q3 => ?_, fun q3 => ?_⟩⟩⟩⟩
  · rw [if_pos q] at h; exact h
  · rw [if_neg q, if_pos q1] at h; exact h
  · rw [if_neg q, if_neg q1, if_pos q2] at h; exact h
  · rw [if_neg q, if_neg q1, if_neg q2, if_pos q3] at h
    obtain ⟨l, e1, e2, l1, l2⟩ := x_ab (a := 1) (b := 400) (by decide) (by decide) q q1
    obtain ⟨c, e3, e4, c1, c2⟩ := x_ab' (a := 0) (b := 20) (by decide) (by decide) q2 q3
    rw [e2, e4] at h
    rw [e1, e3]
    exact t_fewest hs l2 c2 h
  · rw [if_neg q, if_neg q1, if_neg q2, if_neg q3] at h; exact h
theorem c_split {Q : Int32 → Prop} (hs : Stat R) (h : Q (splitV x1 x2)) : Wp fi (d + 3) M_X11_split [.ref 0, .int x1, .int x2] I J R Q := by
  refine e_X11_split hs ?_
  simp only [splitV] at h
  refine ⟨fun q => ?_, fun q => ⟨fun q1 => ?_, fun q1 => ⟨fun q2 => ?_, fun q2 => ⟨fun q3 => ?_, fun q3 => ?_⟩⟩⟩⟩
  · rw [if_pos q] at h; exact h
  · rw [if_neg q, if_pos q1] at h; exact h
  · rw [if_neg q, if_neg q1, if_pos q2] at h; exact h
  · rw [if_neg q, if_neg q1, if_neg q2, if_pos q3] at h
    obtain ⟨l, e1, e2, l1, l2⟩ := x_ab (a := 2) (b := 400) (by decide) (by decide) q q1
    obtain ⟨c, e3, e4, c1, c2⟩ := x_ab' (a := 1) (b := 20) (by decide) (by decide) q2 q3
    rw [e2, e4] at h
    rw [e1, e3]
    exact t_firstCut hs l2 c1 c2 h
  · rw [if_neg q, if_neg q1, if_neg q2, if_neg q3] at h; exact h
theorem c_states {Q : Int32 → Prop} (hs : Stat R) (h : Q (statesV x1 x2)) : Wp fi (d + 2) M_X11_states [.ref 0, .int x1, .int x2] I J R Q := by
  refine ⟨Nat.le_of_ble_eq_true rfl, fun K hK => ?_⟩
  refine g_X11_states_0 hK hs ?_
  simp only [statesV] at h
  refine ⟨fun q => ?_, fun q => ⟨fun q1 => ?_, fun q1 => ⟨fun q2 => ?_, fun q2 => ?_⟩⟩⟩
  · rw [if_pos q] at h; exact h
  · rw [if_neg q, if_pos q1] at h; exact h
  · rw [if_neg q, if_neg q1, if_pos q2] at h
    obtain ⟨l, e1, e2, l1, l2⟩ := x_ab (a := 1) (b := 400) (by decide) (by decide) q q1
    obtain ⟨n, e3, e4, n2⟩ := x_a (x := x2) (by rw [x_lt0]; rw [x_0le] at q2; omega)
    rw [e2, e4] at h
    rw [e1, e3]
    have loop : ∀ (m c : Nat), c + m = 21 → Q (stF l n m c) → K 20 [(1, .int (nI l)), (2, .int (nI n)), (3, .int (nI c))] [] I J R := by
      intro m
      induction m with
      | zero =>
        intro c hc hq
        have : c = 21 := by omega
        subst this
        exact g_X11_states_20 hK hs ⟨fun _ => hq, fun z => absurd (by decide) z⟩
      | succ m ih =>
        intro c hc hq
        refine g_X11_states_20 hK hs ⟨fun z => absurd z (nI_nlt (a := 20) (by omega) (by omega)), fun _ => ?_⟩
        refine t_fewest hs l2 (by omega) ?_
        have b3 := fwN_le l c
        have ce : (nI n < nI (fwN l c)) ↔ n < fwN l c := nI_ltI n2 (by omega)
        rw [ce, nI_1]
        simp only [stF] at hq
        refine ⟨fun z => ?_, fun z => ?_⟩
        · rw [if_pos z] at hq
          exact ih (c + 1) (by omega) hq
        · rw [if_neg z] at hq
          exact hq
    exact loop 21 0 (by omega) h
  · rw [if_neg q, if_neg q1, if_neg q2] at h; exact h
end BU
