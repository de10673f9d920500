/-! fraction: both sides -/
def frcF (v : Nat) (x2 : Int32) : Nat → Nat → Int32
  | 0, _ => -30000
  | m + 1, b => if sgZ (mP (v * b)) < -22360 then frcF v x2 m (b + 1) else if 22360 < sgZ (mP (v * b)) then frcF v x2 m (b + 1) else (if x2 = 0 then sgI (mP (v * b)) else nI b)
def fractionV (x1 x2 : Int32) : Int32 := if x1.toInt < 0 then -40000 else if 1000000007 ≤ x1.toInt then -40000 else if x2 < 0 then -40000 else if x2 ≤ 1 then frcF (xN x1) x2 22360 1 else -40000
theorem sg32 {a : Nat} (ha : a < 1000000007) : Int64.toInt32 (sgL a) = sgI a := by
  apply Int32.toInt_inj.mp
  rw [Int64.toInt_toInt32, sgL_toInt ha, sgI_toInt ha]
  simp only [sgZ]
  split
  · apply Int.bmod_eq_of_le <;> omega
  · apply Int.bmod_eq_of_le <;> omega
section BN
variable {d : Nat} {I : HI} {J : HJ} {R : HR} {x1 x2 : Int32}
theorem c_fraction {Q : Int32 → Prop} (hs : Stat R) (h : Q (fractionV x1 x2)) : Wp fi (d + 2) M_X11_fraction [.ref 0, .int x1, .int x2] I J R Q := by
  refine ⟨Nat.le_of_ble_eq_true rfl, fun K hK => ?_⟩
  refine g_X11_fraction_0 hK hs ?_
  simp only [fractionV] at h
  rw [x_lt0, cP, x_nle x1 (by decide)]
  refine ⟨fun q => ?_, fun q => ⟨fun q1 => ?_, fun q1 => ⟨fun q2 => ?_, fun q2 => ⟨fun q3 => ?_, fun q3 => ?_⟩⟩⟩⟩
  · rw [if_pos q] at h; exact h
  · rw [if_neg q, if_pos (by omega)] at h; exact h
  · rw [if_neg q, if_neg (by omega), if_pos q2] at h; exact h
  · rw [if_neg q, if_neg (by omega), if_neg q2, if_pos q3] at h
    have hx : x1 = nI (xN x1) := (x_eqn x1 (by simp only [xN]; omega)).mpr (by simp only [xN]; omega)
    have hv : xN x1 < 1000000007 := by simp only [xN]; omega
    generalize xN x1 = v at hx hv h
    subst hx
    generalize hW : frcF v x2 22360 1 = W at h
    have loop : ∀ (m b : Nat), b + m = 22360 → frcF v x2 m (b + 1) = W → K 29 [(1, .int (nI v)), (2, .int x2), (3, .int (nI (mP (v * b)))), (4, .int (nI (b + 1)))] [] I J R := by
      intro m
      induction m with
      | zero =>
        intro b hb he
        have : b = 22360 := by omega
        subst this
        simp only [frcF] at he
        rw [← he] at h
        exact g_X11_fraction_29 hK hs ⟨fun _ => h, fun z => absurd (by decide) z⟩
      | succ m ih =>
        intro b hb he
        simp only [frcF] at he
        refine g_X11_fraction_29 hK hs ⟨fun z => absurd z (nI_nlt (a := 22360) (b := b + 1) (by omega) (by omega)), fun _ => ?_⟩
        have nx := ih (b + 1) (by omega)
        refine t_plus hs (mP_lt _) hv ?_
        have e : mP (mP (v * b) + v) = mP (v * (b + 1)) := by
          rw [Nat.mul_add, Nat.mul_one]
          generalize v * b = w
          simp only [mP]
          omega
        rw [e]
        have hl := mP_lt (v * (b + 1))
        refine t_signed hs hl ?_
        rw [nI_1, Int32.lt_iff_toInt_lt, Int32.lt_iff_toInt_lt, sgI_toInt hl, show (-22360 : Int32).toInt = -22360 from rfl, show (22360 : Int32).toInt = 22360 from rfl]
        refine ⟨fun z => ?_, fun z => ⟨fun z2 => ?_, fun z2 => ⟨fun z3 => ?_, fun z3 => ?_⟩⟩⟩
        · rw [if_pos z] at he
          exact nx he
        · rw [if_neg z, if_pos z2] at he
          exact nx he
        · rw [if_neg z, if_neg z2, if_neg z3] at he
          rw [← he] at h
          exact h
        · rw [if_neg z, if_neg z2, if_pos z3] at he
          rw [← he] at h
          exact h
    exact loop 22360 0 (by omega) hW
  · rw [if_neg q, if_neg (by omega), if_neg q2, if_neg q3] at h; exact h
theorem m_fraction {Q : Int32 → HI → Prop} (hs : Stat R) (h : Q (fractionV x1 x2) (up I 80 0 0)) : Wc fi (d + 2) M_X12_fraction [.ref 80, .int x1, .int x2] I J R Q := by
  refine ⟨Nat.le_of_ble_eq_true rfl, fun K hK => ?_⟩
  refine g_X12_fraction_0 hK hs ?_
  simp only [fractionV] at h
  rw [x_lt0, Int64.le_iff_toInt_le, i2l, show (1000000007 : Int64).toInt = 1000000007 from rfl]
  refine ⟨fun q => ?_, fun q => ⟨fun q1 => ?_, fun q1 => ⟨fun q2 => ?_, fun q2 => ⟨fun q3 => ?_, fun q3 => ?_⟩⟩⟩⟩
  · rw [if_pos q] at h; exact h
  · rw [if_neg q, if_pos q1] at h; exact h
  · rw [if_neg q, if_neg q1, if_pos q2] at h; exact h
  · rw [if_neg q, if_neg q1, if_neg q2, if_pos q3] at h
    have hx : x1 = nI (xN x1) := (x_eqn x1 (by simp only [xN]; omega)).mpr (by simp only [xN]; omega)
    have hv : xN x1 < 1000000007 := by simp only [xN]; omega
    generalize xN x1 = v at hx hv h
    subst hx
    generalize hW : frcF v x2 22360 1 = W at h
    have loop : ∀ (m b : Nat), b + m = 22360 → frcF v x2 m (b + 1) = W → K 33 [(1, .int (nI v)), (2, .int x2), (3, .int (nI (b + 1)))] [] (up I 80 0 0) J R := by
      intro m
      induction m with
      | zero =>
        intro b hb he
        have : b = 22360 := by omega
        subst this
        simp only [frcF] at he
        rw [← he] at h
        exact g_X12_fraction_33 hK hs ⟨fun _ => h, fun z => absurd (by decide) z⟩
      | succ m ih =>
        intro b hb he
        simp only [frcF] at he
        refine g_X12_fraction_33 hK hs ⟨fun z => absurd z (nI_nlt (a := 22360) (b := b + 1) (by omega) (by omega)), fun _ => ?_⟩
        have nx := ih (b + 1) (by omega)
        have mb : v * (b + 1) < 1000000007 * 1000000007 := Nat.mul_lt_mul_of_lt_of_le hv (by omega) (by decide)
        have hl := mP_lt (v * (b + 1))
        rw [nI_l (by omega), nI_l (by omega), lN_mul, cPL, pk_lRem (by omega) (by decide) (by decide), nI_1]
        refine t_msigned hs hl ?_
        rw [Int64.lt_iff_toInt_lt, Int64.lt_iff_toInt_lt, show v * (b + 1) % 1000000007 = mP (v * (b + 1)) from rfl, sgL_toInt hl, sg32 hl, show (-22360 : Int64).toInt = -22360 from rfl, show (22360 : Int64).toInt = 22360 from rfl]
        refine ⟨fun z => ?_, fun z => ⟨fun z2 => ?_, fun z2 => ⟨fun z3 => ?_, fun z3 => ?_⟩⟩⟩
        · rw [if_pos z] at he
          exact nx he
        · rw [if_neg z, if_pos z2] at he
          exact nx he
        · rw [if_neg z, if_neg z2, if_neg z3] at he
          rw [← he] at h
          exact h
        · rw [if_neg z, if_neg z2, if_pos z3] at he
          rw [← he] at h
          exact h
    exact loop 22360 0 (by omega) hW
  · rw [if_neg q, if_neg q1, if_neg q2, if_neg q3] at h; exact h
end BN
