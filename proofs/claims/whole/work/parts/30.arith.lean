/-! NUMBERS by P: what the class's ints and the reference's longs come to -/
theorem li (n : Nat) : (OfNat.ofNat n : Int32) = nI n := rfl
theorem ll (n : Nat) : (OfNat.ofNat n : Int64) = lN n := rfl
theorem cP : (1000000007 : Int32) = nI 1000000007 := rfl
theorem cPL : (1000000007 : Int64) = lN 1000000007 := rfl
def mP (n : Nat) : Nat := n % 1000000007
theorem mP_lt (n : Nat) : mP n < 1000000007 := Nat.mod_lt _ (by decide)
theorem mP_of {n : Nat} (h : n < 1000000007) : mP n = n := Nat.mod_eq_of_lt h
def sP (a b : Nat) : Nat := mP (a + 1000000007 - b)
theorem sP_lt (a b : Nat) : sP a b < 1000000007 := mP_lt _
/-- b to the n-th, times a, by squares: as both sides reckon it -/
def pwf : Nat → Nat → Nat → Nat → Nat
  | 0, _, a, _ => a
  | f + 1, n, a, b => if n = 0 then a else pwf f (n / 2) (if n % 2 = 1 then mP (a * b) else a) (mP (b * b))
theorem pwf_lt : ∀ (f n a b : Nat), a < 1000000007 → pwf f n a b < 1000000007
  | 0, _, _, _, h => h
  | f + 1, n, a, b, h => by
    simp only [pwf]
    split
    · exact h
    · apply pwf_lt
      split
      · exact mP_lt _
      · exact h
def ivP (b : Nat) : Nat := pwf 30 1000000005 1 b
theorem ivP_lt (b : Nat) : ivP b < 1000000007 := pwf_lt _ _ _ _ (by decide)
theorem rem64 {z : Int64} (h1 : -4611686018427387904 ≤ z.toInt) (h2 : z.toInt ≤ 4611686018427387904) : (z - z / 1000000007 * 1000000007).toInt = z.toInt.tmod 1000000007 := by
  have e : (1000000007 : Int64).toInt = 1000000007 := by decide
  have hd : (z / 1000000007).toInt = z.toInt.tdiv 1000000007 := by
    rw [Int64.toInt_div_of_ne_right _ _ (by decide), e]
  have hb1 := Int.mul_tdiv_add_tmod z.toInt 1000000007
  have hb2 : z.toInt.tmod 1000000007 < 1000000007 := Int.tmod_lt_of_pos _ (by decide)
  have hb3 : -1000000007 < z.toInt.tmod 1000000007 := by
    have := Int.tmod_lt_of_pos (-z.toInt) (show (0:Int) < 1000000007 by decide)
    rw [Int.neg_tmod] at this
    omega
  have hm : (z / 1000000007 * 1000000007).toInt = z.toInt.tdiv 1000000007 * 1000000007 := by
    rw [Int64.toInt_mul, hd, e]
    apply Int.bmod_eq_of_le <;> omega
  rw [Int64.toInt_sub, hm]
  rw [Int.bmod_eq_of_le] <;> omega
theorem rem32 (z : Int32) : (z - z / 1000000007 * 1000000007).toInt = z.toInt.tmod 1000000007 := by
  have e : (1000000007 : Int32).toInt = 1000000007 := by decide
  have h1 := Int32.le_toInt z
  have h2 := Int32.toInt_lt z
  have hd : (z / 1000000007).toInt = z.toInt.tdiv 1000000007 := by
    rw [Int32.toInt_div_of_ne_right _ _ (by decide), e]
  have hb1 := Int.mul_tdiv_add_tmod z.toInt 1000000007
  have hb2 : z.toInt.tmod 1000000007 < 1000000007 := Int.tmod_lt_of_pos _ (by decide)
  have hb3 : -1000000007 < z.toInt.tmod 1000000007 := by
    have := Int.tmod_lt_of_pos (-z.toInt) (show (0:Int) < 1000000007 by decide)
    rw [Int.neg_tmod] at this
    omega
  have hsg : (0 ≤ z.toInt → 0 ≤ z.toInt.tmod 1000000007) ∧ (z.toInt ≤ 0 → z.toInt.tmod 1000000007 ≤ 0) := by
    refine ⟨fun h => Int.tmod_nonneg _ h, fun h => ?_⟩
    have := Int.tmod_nonneg 1000000007 (show 0 ≤ -z.toInt by omega)
    rw [Int.neg_tmod] at this
    omega
  have hm : (z / 1000000007 * 1000000007).toInt = z.toInt.tdiv 1000000007 * 1000000007 := by
    rw [Int32.toInt_mul, hd, e]
    apply Int.bmod_eq_of_le <;> omega
  rw [Int32.toInt_sub, hm]
  rw [Int.bmod_eq_of_le] <;> omega
/-- what is left of a whole number by P -/
def zP (z : Int) : Nat := (z % 1000000007).toNat
theorem zP_lt (z : Int) : zP z < 1000000007 := by
  have h1 := Int.emod_nonneg z (show (1000000007 : Int) ≠ 0 by decide)
  have h2 := Int.emod_lt_of_pos z (show (0:Int) < 1000000007 by decide)
  simp only [zP]
  omega
theorem zP_tmod (z : Int) : (zP z : Int) = if z.tmod 1000000007 < 0 then z.tmod 1000000007 + 1000000007 else z.tmod 1000000007 := by
  have h1 := Int.emod_nonneg z (show (1000000007 : Int) ≠ 0 by decide)
  have h2 := Int.emod_lt_of_pos z (show (0:Int) < 1000000007 by decide)
  have hb1 := Int.mul_tdiv_add_tmod z 1000000007
  have hb4 := Int.mul_ediv_add_emod z 1000000007
  have hb2 : z.tmod 1000000007 < 1000000007 := Int.tmod_lt_of_pos _ (by decide)
  have hb3 : -1000000007 < z.tmod 1000000007 := by
    have := Int.tmod_lt_of_pos (-z) (show (0:Int) < 1000000007 by decide)
    rw [Int.neg_tmod] at this
    omega
  simp only [zP]
  split <;> omega
theorem zP_nat (n : Nat) : zP n = mP n := by simp only [zP, mP]; omega
theorem zP_sub (a b : Nat) (h : b ≤ 1000000007) : zP ((a : Int) - b) = sP a b := by simp only [zP, sP, mP]; omega
theorem lN_of {z : Int64} {n : Nat} (hn : n < 2 ^ 63) (h : z.toInt = n) : z = lN n := Int64.toInt_inj.mp (by rw [h, pk_lT hn])
theorem nI_ofI {z : Int32} {n : Nat} (hn : n < 2 ^ 31) (h : z.toInt = n) : z = nI n := Int32.toInt_inj.mp (by rw [h, nI_toInt hn])
section AR
variable {d : Nat} {I : HI} {J : HJ} {R : HR}
theorem t_plus {a b : Nat} {Q : Int32 → Prop} (hs : Stat R) (ha : a < 1000000007) (hb : b < 1000000007) (h : Q (nI (mP (a + b)))) : Wp fi (d + 1) M_X3_plus [.int (nI a), .int (nI b)] I J R Q := by
  refine e_X3_plus hs ?_
  rw [nI_add]
  by_cases hc : a + b < 1000000007
  · refine ⟨fun _ => ?_, fun hn => absurd ((nI_ltI (by omega) (by decide)).mpr hc) hn⟩
    rw [mP_of hc] at h
    exact h
  · refine ⟨fun hn => absurd ((nI_ltI (by omega) (by decide)).mp hn) hc, fun _ => ?_⟩
    rw [cP, pk_sub (by omega)]
    have e : mP (a + b) = a + b - 1000000007 := by simp only [mP]; omega
    rw [e] at h
    exact h
theorem t_minus {a b : Nat} {Q : Int32 → Prop} (hs : Stat R) (ha : a < 1000000007) (hb : b < 1000000007) (h : Q (nI (sP a b))) : Wp fi (d + 1) M_X3_minus [.int (nI a), .int (nI b)] I J R Q := by
  refine e_X3_minus hs ?_
  by_cases hc : b ≤ a
  · rw [pk_sub hc]
    have e : sP a b = a - b := by simp only [sP, mP]; omega
    rw [e] at h
    exact ⟨fun _ => h, fun hn => absurd (nI_pos' (by omega)) hn⟩
  · have hneg := pk_sneg (a := a) (b := b) (by omega) (by omega)
    refine ⟨fun hn => absurd hneg (Int32.not_lt.mpr hn), fun _ => ?_⟩
    have e : sP a b = a + 1000000007 - b := by simp only [sP, mP]; omega
    have e2 : nI a - nI b + 1000000007 = nI (a + 1000000007 - b) := by
      rw [← pk_sub (by omega), ← nI_add, li, Int32.sub_eq_add_neg, Int32.sub_eq_add_neg, Int32.add_assoc, Int32.add_assoc, Int32.add_comm (-nI b)]
    rw [e2, ← e]
    exact h
theorem t_times {a b : Nat} {Q : Int32 → Prop} (hs : Stat R) (ha : a < 1000000007) (hb : b < 1000000007) (h : Q (nI (mP (a * b)))) : Wp fi (d + 1) M_X3_times [.int (nI a), .int (nI b)] I J R Q := by
  refine e_X3_times hs ?_
  have hm : a * b < 1000000007 * 1000000007 := Nat.mul_lt_mul_of_lt_of_le ha (by omega) (by decide)
  rw [nI_l (by omega), nI_l (by omega), lN_mul, ll, pk_lRem (by omega) (by decide) (by decide), lN_i]
  exact h
theorem t_inverse {b : Nat} {Q : Int32 → Prop} (hs : Stat R) (hb : b < 1000000007) (h : Q (nI (ivP b))) : Wp fi (d + 1) M_X3_inverse [.int (nI b)] I J R Q := by
  refine ⟨Nat.le_of_ble_eq_true rfl, fun K hK => ?_⟩
  refine g_X3_inverse_0 hK hs ?_
  have key : ∀ (f n a b : Nat), n < 2 ^ f → n < 2 ^ 31 → a < 1000000007 → b < 1000000007 → Q (nI (pwf f n a b)) → K 9 [(1, .long (lN b)), (3, .long (lN a)), (5, .int (nI n))] [] I J R := by
    intro f
    induction f with
    | zero =>
      intro n a b hn _ ha hb hq
      have : n = 0 := by omega
      subst this
      refine g_X3_inverse_9 hK hs ⟨fun _ => ?_, fun hn => absurd (by decide) hn⟩
      rw [lN_i]
      exact hq
    | succ f ih =>
      intro n a b hn hn2 ha hb hq
      refine g_X3_inverse_9 hK hs ⟨fun hc => ?_, fun hc => ?_⟩
      · have : n = 0 := by
          rcases Nat.eq_zero_or_pos n with h0 | h0
          · exact h0
          · exact absurd hc (nI_nle h0 hn2)
        subst this
        rw [lN_i]
        exact hq
      · have hn0 : n ≠ 0 := fun h0 => hc (by rw [h0]; decide)
        simp only [pwf, if_neg hn0] at hq
        have hbb : b * b < 1000000007 * 1000000007 := Nat.mul_lt_mul_of_lt_of_le hb (by omega) (by decide)
        have hab : a * b < 1000000007 * 1000000007 := Nat.mul_lt_mul_of_lt_of_le ha (by omega) (by decide)
        have e1 : nI n &&& 1 = nI (n % 2) := pk_andN (by omega) 1 (by decide)
        have e2 : nI n >>> ((1 : Int32) &&& 31) = nI (n / 2) := pk_shrN hn2 _ 1 (by decide)
        rw [lN_mul, lN_mul, ll, pk_lRem (by omega) (by decide) (by decide), pk_lRem (by omega) (by decide) (by decide), e1, e2]
        refine ⟨fun h1 => ?_, fun h1 => ?_⟩
        · have h2 : n % 2 = 0 := by
            rw [← nI_0] at h1
            exact (nI_eq (by omega) (by decide)).mp h1
          rw [if_neg (by omega)] at hq
          exact ih (n / 2) a (mP (b * b)) (by omega) (by omega) ha (mP_lt _) hq
        · have h2 : n % 2 = 1 := by
            rcases Nat.mod_two_eq_zero_or_one n with h0 | h0
            · rw [h0] at h1; exact absurd nI_0 h1
            · exact h0
          rw [if_pos h2] at hq
          exact ih (n / 2) (mP (a * b)) (mP (b * b)) (by omega) (by omega) (mP_lt _) (mP_lt _) hq
  rw [nI_l (by omega), ll, li]
  exact key 30 1000000005 1 b (by decide) (by decide) (by decide) hb h
def sgI (a : Nat) : Int32 := if a ≤ 500000003 then nI a else nI a - nI 1000000007
def sgZ (a : Nat) : Int := if a ≤ 500000003 then (a : Int) else (a : Int) - 1000000007
theorem sgI_toInt {a : Nat} (ha : a < 1000000007) : (sgI a).toInt = sgZ a := by
  simp only [sgI, sgZ]
  split
  · exact nI_toInt (by omega)
  · exact pk_sub_toInt (by omega) (by decide)
theorem t_signed {a : Nat} {Q : Int32 → Prop} (hs : Stat R) (ha : a < 1000000007) (h : Q (sgI a)) : Wp fi (d + 1) M_X3_signed [.int (nI a)] I J R Q := by
  refine e_X3_signed hs ?_
  simp only [sgI] at h
  have e : (nI a ≤ 500000003) ↔ a ≤ 500000003 := nI_leI (by omega) (by decide)
  refine ⟨fun hc => ?_, fun hc => ?_⟩
  · rw [if_pos (e.mp hc)] at h; exact h
  · rw [if_neg (fun q => hc (e.mpr q))] at h; exact h
theorem t_of {x : Int32} {Q : Int32 → Prop} (hs : Stat R) (h : Q (nI (zP x.toInt))) : Wp fi (d + 1) M_X3_of [.int x] I J R Q := by
  refine e_X3_of hs ?_
  have e := rem32 x
  have hz := zP_tmod x.toInt
  have hlt := zP_lt x.toInt
  generalize x - x / 1000000007 * 1000000007 = y at e ⊢
  have hnn : (0 ≤ y) ↔ ¬ x.toInt.tmod 1000000007 < 0 := by
    rw [Int32.le_iff_toInt_le, e]
    simp
  refine ⟨fun hc => ?_, fun hc => ?_⟩
  · rw [if_neg (hnn.mp hc)] at hz
    rw [nI_ofI (by omega) (e.trans hz.symm)]
    exact h
  · have hc' : x.toInt.tmod 1000000007 < 0 := Classical.not_not.mp (fun q => hc (hnn.mpr q))
    rw [if_pos hc'] at hz
    have e3 : (y + 1000000007).toInt = (zP x.toInt : Int) := by
      rw [Int32.toInt_add, e, hz, show (1000000007 : Int32).toInt = 1000000007 by decide]
      apply Int.bmod_eq_of_le <;> omega
    rw [nI_ofI (by omega) e3]
    exact h
-- the reference's
theorem t_left {z : Int64} {Q : Int64 → Prop} (hs : Stat R) (h1 : -4611686018427387904 ≤ z.toInt) (h2 : z.toInt ≤ 4611686018427387904) (h : Q (lN (zP z.toInt))) : Wp fl (d + 1) M_X12_left [.long z] I J R Q := by
  refine e_X12_left hs ?_
  have e := rem64 h1 h2
  have hz := zP_tmod z.toInt
  have hlt := zP_lt z.toInt
  generalize z - z / 1000000007 * 1000000007 = y at e ⊢
  have hnn : (0 ≤ y) ↔ ¬ z.toInt.tmod 1000000007 < 0 := by
    rw [Int64.le_iff_toInt_le, e]
    simp
  refine ⟨fun hc => ?_, fun hc => ?_⟩
  · rw [if_neg (hnn.mp hc)] at hz
    rw [lN_of (by omega) (e.trans hz.symm)]
    exact h
  · have hc' : z.toInt.tmod 1000000007 < 0 := Classical.not_not.mp (fun q => hc (hnn.mpr q))
    rw [if_pos hc'] at hz
    have e3 : (y + 1000000007).toInt = (zP z.toInt : Int) := by
      rw [Int64.toInt_add, e, hz, show (1000000007 : Int64).toInt = 1000000007 by decide]
      apply Int.bmod_eq_of_le <;> omega
    rw [lN_of (by omega) e3]
    exact h
theorem t_power {b : Nat} {Q : Int64 → Prop} (hs : Stat R) (hb : b < 1000000007) (h : Q (lN (ivP b))) : Wp fl (d + 1) M_X12_power [.long (lN b), .long (1000000005 : Int64)] I J R Q := by
  refine ⟨Nat.le_of_ble_eq_true rfl, fun K hK => ?_⟩
  refine g_X12_power_0 hK hs ?_
  have key : ∀ (f n a b : Nat), n < 2 ^ f → n < 2 ^ 31 → a < 1000000007 → b < 1000000007 → Q (lN (pwf f n a b)) → K 9 [(4, .long (lN a)), (6, .long (lN b)), (8, .long (lN n))] [] I J R := by
    intro f
    induction f with
    | zero =>
      intro n a b hn _ ha hb hq
      have : n = 0 := by omega
      subst this
      exact g_X12_power_9 hK hs ⟨fun _ => hq, fun hn => absurd (by decide) hn⟩
    | succ f ih =>
      intro n a b hn hn2 ha hb hq
      refine g_X12_power_9 hK hs ⟨fun hc => ?_, fun hc => ?_⟩
      · have : n = 0 := by
          have := (pk_lLE (a := n) (b := 0) (by omega) (by decide)).mp hc
          omega
        subst this
        exact hq
      · have hn0 : n ≠ 0 := fun h0 => hc (by rw [h0]; decide)
        simp only [pwf, if_neg hn0] at hq
        have hbb : b * b < 1000000007 * 1000000007 := Nat.mul_lt_mul_of_lt_of_le hb (by omega) (by decide)
        have hab : a * b < 1000000007 * 1000000007 := Nat.mul_lt_mul_of_lt_of_le ha (by omega) (by decide)
        rw [lN_mul, lN_mul, ll, ll, ll, pk_lRem (by omega) (by decide) (by decide), pk_lRem (by omega) (by decide) (by decide), pk_lRem (by omega) (by decide) (by decide), pk_lDiv (by omega) (by decide) (by decide)]
        refine ⟨fun h1 => ?_, fun h1 => ?_⟩
        · have h2 : ¬ n % 2 = 1 := fun q => h1 (by rw [q])
          rw [if_neg h2] at hq
          exact ih (n / 2) a (mP (b * b)) (by omega) (by omega) ha (mP_lt _) hq
        · have h2 : n % 2 = 1 := (pk_lEQ (by omega) (by decide)).mp h1
          rw [if_pos h2] at hq
          exact ih (n / 2) (mP (a * b)) (mP (b * b)) (by omega) (by omega) (mP_lt _) (mP_lt _) hq
  rw [ll, ll]
  exact key 30 1000000005 1 b (by decide) (by decide) (by decide) hb h
theorem t_parted {a b : Nat} {Q : Int64 → Prop} (hs : Stat R) (ha : a < 1000000007) (hb : b < 1000000007) (h : Q (lN (mP (a * ivP b)))) : Wp fl (d + 2) M_X12_parted [.long (lN a), .long (lN b)] I J R Q := by
  refine e_X12_parted hs (t_power hs hb ?_)
  have hi := ivP_lt b
  have hab : a * ivP b < 1000000007 * 1000000007 := Nat.mul_lt_mul_of_lt_of_le ha (by omega) (by decide)
  rw [lN_mul, ll, pk_lRem (by omega) (by decide) (by decide)]
  exact h
def sgL (a : Nat) : Int64 := if a ≤ 500000003 then lN a else lN a - lN 1000000007
theorem sgL_toInt {a : Nat} (ha : a < 1000000007) : (sgL a).toInt = sgZ a := by
  simp only [sgL, sgZ]
  split
  · exact pk_lT (by omega)
  · rw [Int64.toInt_sub, pk_lT (by omega), pk_lT (by decide)]
    apply Int.bmod_eq_of_le <;> omega
theorem t_msigned {a : Nat} {Q : Int64 → Prop} (hs : Stat R) (ha : a < 1000000007) (h : Q (sgL a)) : Wp fl (d + 1) M_X12_signed [.long (lN a)] I J R Q := by
  refine e_X12_signed hs ?_
  simp only [sgL] at h
  have e : (lN a ≤ (500000003 : Int64)) ↔ a ≤ 500000003 := pk_lLE (by omega) (by decide)
  refine ⟨fun hc => ?_, fun hc => ?_⟩
  · rw [if_pos (e.mp hc)] at h; exact h
  · rw [if_neg (fun q => hc (e.mpr q))] at h; exact h
end AR
