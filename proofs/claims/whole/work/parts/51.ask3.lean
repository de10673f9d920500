/-! run, path, count, fault; bits -/
section AU
variable {d : Nat} {I : HI} {J : HJ} {R : HR} {G T : SP} {D : Nat → Nat} {N : Nat → List Nat} {inp : Nat → Nat} {x1 x2 x3 : Int32}
theorem c_run {Q : Int32 → Prop} (hF : finT G T) (hc : cQ I R G N T) (h : Q (runV T x1)) : Wp fi (d + 1) M_X11_run [.ref 0, .int x1] I J R Q := by
  obtain ⟨hs, hp, ⟨m1, m2, m3⟩, v1, v2, v3, v4, v5, v6, v7⟩ := id hc
  have h7 := hF.1.2.2.2.2.2.2
  refine e_X11_run hs ?_
  have c0 : (nI (T 0 7) = 0) ↔ T 0 7 = 0 := nI_eq (b := 0) (by omega) (by decide)
  rw [m1, m2, m3, show I 27 2 = nI (T 0 3) from v4.1, show I 30 0 = nI (T 0 4) from v5.1, show I 41 1 = nI (T 0 5) from v6.1, show I 41 2 = nI (T 0 6) from v6.2.1, c0]
  simp only [runV] at h
  refine ⟨fun e0 => ?_, fun e0 => ⟨fun e1 => ?_, fun e1 => ⟨fun e2 => ?_, fun e2 => ⟨fun e3 => ?_, fun e3 => ⟨fun e4 => ?_, fun e4 => ⟨fun e5 => ?_, fun e5 => ⟨fun e6 => ?_, fun e6 => ?_⟩⟩⟩⟩⟩⟩⟩
  · rw [if_pos e0] at h; exact h
  · rw [if_neg e0, if_pos e1] at h
    refine ⟨fun q => ?_, fun q => ?_⟩
    · rw [if_neg q] at h; exact h
    · rw [if_pos q] at h; exact h
  · rw [if_neg e0, if_neg e1, if_pos e2] at h; exact h
  · rw [if_neg e0, if_neg e1, if_neg e2, if_pos e3] at h; exact h
  · rw [if_neg e0, if_neg e1, if_neg e2, if_neg e3, if_pos e4] at h; exact h
  · rw [if_neg e0, if_neg e1, if_neg e2, if_neg e3, if_neg e4, if_pos e5] at h; exact h
  · rw [if_neg e0, if_neg e1, if_neg e2, if_neg e3, if_neg e4, if_neg e5, if_pos e6] at h; exact h
  · rw [if_neg e0, if_neg e1, if_neg e2, if_neg e3, if_neg e4, if_neg e5, if_neg e6] at h; exact h
theorem m_run {Q : Int32 → HI → Prop} (hr : rQ I J R G T) (h : Q (runV T x1) (up I 80 0 0)) : Wc fi (d + 1) M_X12_run [.ref 80, .int x1] I J R Q := by
  refine e_X12_run hr.1 ?_
  obtain ⟨a44, a47, a54, a56, a57, a61⟩ := hr.2.2.1.1
  rw [hr.2.2.2.1, hr.2.2.2.2, a44, a54, a56, a57, a61]
  simp only [runV] at h
  refine ⟨fun e0 => ?_, fun e0 => ⟨fun e1 => ?_, fun e1 => ⟨fun e2 => ?_, fun e2 => ⟨fun e3 => ?_, fun e3 => ⟨fun e4 => ?_, fun e4 => ⟨fun e5 => ?_, fun e5 => ⟨fun e6 => ?_, fun e6 => ?_⟩⟩⟩⟩⟩⟩⟩
  · rw [if_pos e0] at h; exact h
  · rw [if_neg e0, if_pos e1] at h; exact h
  · rw [if_neg e0, if_neg e1, if_pos e2] at h; exact h
  · rw [if_neg e0, if_neg e1, if_neg e2, if_pos e3] at h; exact h
  · rw [if_neg e0, if_neg e1, if_neg e2, if_neg e3, if_pos e4] at h; exact h
  · rw [if_neg e0, if_neg e1, if_neg e2, if_neg e3, if_neg e4, if_pos e5] at h; exact h
  · rw [if_neg e0, if_neg e1, if_neg e2, if_neg e3, if_neg e4, if_neg e5, if_pos e6] at h; exact h
  · rw [if_neg e0, if_neg e1, if_neg e2, if_neg e3, if_neg e4, if_neg e5, if_neg e6] at h; exact h
theorem c_count {Q : Int32 → Prop} (hc : cQ I R G N T) (h : Q (countV G (I 0 1) x1)) : Wp fi (d + 1) M_X11_count [.ref 0, .int x1] I J R Q := by
  obtain ⟨hs, ⟨p, hp1, hp2, hp3⟩, hm⟩ := id hc
  obtain ⟨p1, p2, p3, p4, p5, p6, p7, p8⟩ := hp3
  refine e_X11_count hs ?_
  simp only [countV] at h
  refine ⟨fun e0 => ⟨p, hp1, hp2, ?_⟩, fun e0 => ⟨fun e1 => ⟨p, hp1, hp2, ?_⟩, fun e1 => ⟨fun e2 => ⟨p, hp1, hp2, ?_⟩, fun e2 => ⟨fun e3 => ⟨p, hp1, hp2, ?_⟩, fun e3 => ⟨fun e4 => ⟨p, hp1, hp2, ?_⟩, fun e4 => ⟨fun e5 => ⟨p, hp1, hp2, ?_⟩, fun e5 => ⟨fun e6 => ?_, fun e6 => ?_⟩⟩⟩⟩⟩⟩⟩
  · rw [if_pos e0] at h; rw [p2]; exact h
  · rw [if_neg e0, if_pos e1] at h; rw [p3]; exact h
  · rw [if_neg e0, if_neg e1, if_pos e2] at h; rw [p4]; exact h
  · rw [if_neg e0, if_neg e1, if_neg e2, if_pos e3] at h; rw [p5]; exact h
  · rw [if_neg e0, if_neg e1, if_neg e2, if_neg e3, if_pos e4] at h; rw [p6]; exact h
  · rw [if_neg e0, if_neg e1, if_neg e2, if_neg e3, if_neg e4, if_pos e5] at h; rw [p1]; exact h
  · rw [if_neg e0, if_neg e1, if_neg e2, if_neg e3, if_neg e4, if_neg e5, if_pos e6] at h; exact h
  · rw [if_neg e0, if_neg e1, if_neg e2, if_neg e3, if_neg e4, if_neg e5, if_neg e6] at h; exact h
theorem m_count {Q : Int32 → HI → Prop} (hr : rQ I J R G T) (h : Q (countV G (I 80 2) x1) (up I 80 0 0)) : Wc fi (d + 1) M_X12_count [.ref 80, .int x1] I J R Q := by
  refine e_X12_count hr.1 ?_
  obtain ⟨p35, p30, p31, p32, p33, p34, pc, pr⟩ := hr.2.1
  rw [p35, p30, p31, p32, p33, p34]
  simp only [countV] at h
  refine ⟨fun e0 => ?_, fun e0 => ⟨fun e1 => ?_, fun e1 => ⟨fun e2 => ?_, fun e2 => ⟨fun e3 => ?_, fun e3 => ⟨fun e4 => ?_, fun e4 => ⟨fun e5 => ?_, fun e5 => ⟨fun e6 => ?_, fun e6 => ?_⟩⟩⟩⟩⟩⟩⟩
  · rw [if_pos e0] at h; exact h
  · rw [if_neg e0, if_pos e1] at h; exact h
  · rw [if_neg e0, if_neg e1, if_pos e2] at h; exact h
  · rw [if_neg e0, if_neg e1, if_neg e2, if_pos e3] at h; exact h
  · rw [if_neg e0, if_neg e1, if_neg e2, if_neg e3, if_pos e4] at h; exact h
  · rw [if_neg e0, if_neg e1, if_neg e2, if_neg e3, if_neg e4, if_pos e5] at h; exact h
  · rw [if_neg e0, if_neg e1, if_neg e2, if_neg e3, if_neg e4, if_neg e5, if_pos e6] at h; exact h
  · rw [if_neg e0, if_neg e1, if_neg e2, if_neg e3, if_neg e4, if_neg e5, if_neg e6] at h; exact h
theorem c_fault {Q : Int32 → Prop} (hs : Stat R) (h : Q (faultV (I 0 3) (I 0 4) x1)) : Wp fi (d + 1) M_X11_fault [.ref 0, .int x1] I J R Q := by
  refine e_X11_fault hs ?_
  simp only [faultV] at h
  refine ⟨fun e0 => ?_, fun e0 => ⟨fun e1 => ?_, fun e1 => ?_⟩⟩
  · rw [if_pos e0] at h; exact h
  · rw [if_neg e0, if_pos e1] at h; exact h
  · rw [if_neg e0, if_neg e1] at h; exact h
theorem m_fault {Q : Int32 → HI → Prop} (hs : Stat R) (h : Q (faultV (I 80 11) (I 80 12) x1) (up I 80 0 0)) : Wc fi (d + 1) M_X12_fault [.ref 80, .int x1] I J R Q := by
  refine e_X12_fault hs ?_
  simp only [faultV] at h
  refine ⟨fun e0 => ⟨fun e1 => ?_, fun e1 => ?_⟩, fun e0 => ?_⟩
  · rw [if_neg e0, if_neg e1] at h; exact h
  · rw [if_neg e0, if_pos e1] at h; exact h
  · rw [if_pos e0] at h; exact h
theorem c_path {Q : Int32 → Prop} (hF : finT G T) (hc : cQ I R G N T) (h : Q (pathV T x1)) : Wp fi (d + 2) M_X11_path [.ref 0, .int x1] I J R Q := by
  obtain ⟨hs, hp, ⟨m1, m2, m3⟩, v1, v2, v3, v4, v5, v6, v7⟩ := id hc
  obtain ⟨⟨f0, f1, f2, f3, f4, f5, f6⟩, g1, g2, g3, g4, g5⟩ := id hF
  refine e_X11_path hs ?_
  rw [show I 41 1 = nI (T 0 5) from v6.1]
  simp only [pathV] at h
  refine ⟨fun e => ?_, fun e => ?_⟩
  · rw [if_pos e] at h
    rcases xc x1 (T 0 5) (by omega) with ⟨c0, c1⟩ | ⟨c0, c1, c2, c3⟩ | ⟨k, ck, c0, c1, c2, c3, c4, c5⟩
    · exact absurd c0 (Int32.not_lt.mpr e)
    · rw [c3, if_neg (by decide)] at h
      exact ⟨fun _ => h, fun hc => absurd c1 hc⟩
    · rw [c1, if_pos rfl, c2] at h
      refine ⟨fun hc => absurd hc c4, fun _ => ?_⟩
      rw [ck]
      exact t_answerAt hs (Or.inl rfl) (by omega) c0 g5 v6 h
  · rw [if_neg e] at h
    exact h
theorem m_path {Q : Int32 → HI → Prop} (hF : finT G T) (hr : rQ I J R G T) (h : Q (pathV T x1) (up I 80 0 0)) : Wc fi (d + 1) M_X12_path [.ref 80, .int x1] I J R Q := by
  obtain ⟨⟨f0, f1, f2, f3, f4, f5, f6⟩, g1, g2, g3, g4, g5⟩ := id hF
  refine e_X12_path hr.1 ?_
  rw [hr.2.2.1.1.2.2.2.1]
  simp only [pathV] at h
  refine ⟨fun e => ?_, fun e => ?_⟩
  · rw [if_pos e] at h
    rcases xc x1 (T 0 5) (by omega) with ⟨c0, c1⟩ | ⟨c0, c1, c2, c3⟩ | ⟨k, ck, c0, c1, c2, c3, c4, c5⟩
    · exact absurd c0 (Int32.not_lt.mpr e)
    · rw [c3, if_neg (by decide)] at h
      exact ⟨fun _ => h, fun hc => absurd c1 hc⟩
    · rw [c1, if_pos rfl, c2] at h
      refine ⟨fun hc => absurd hc c4, fun _ => ⟨k, ck, by omega, ?_⟩⟩
      rw [hr.2.2.1.2.2.2.2.2.2.1 k c0]
      exact h
  · rw [if_neg e] at h
    exact h
end AU
theorem and_nI (a b : Nat) : nI a &&& nI b = nI (a &&& b) := by
  apply Int32.toBitVec_inj.mp
  simp [nI, Int32.toBitVec_and, Int32.toBitVec_ofNat, BitVec.ofNat_and]
theorem shl1 {k : Nat} (hk : k < 4) : (1 : Int32) <<< (nI k &&& 31) = nI (2 ^ k) := by
  have e2 : nI k &&& 31 = nI k := by
    rw [show (nI k &&& 31) = nI (k % 2 ^ 5) from pk_andN (by omega) 5 (by decide), Nat.mod_eq_of_lt (by omega)]
  have hp : 2 ^ k < 2 ^ 32 := Nat.pow_lt_pow_right (by decide) (by omega)
  have := pk_shlN (n := 1) (nI k) k (sh_amt (by omega)) (by omega)
  rw [Nat.one_mul] at this
  rw [e2, show (1 : Int32) = nI 1 from rfl, this]
theorem and_z {a m : Nat} (hm : m < 16) : (nI a &&& nI m = 0) ↔ a &&& m = 0 := by
  rw [and_nI]
  have : a &&& m ≤ m := Nat.and_le_right
  exact nI_eq (b := 0) (by omega) (by decide)
theorem and_bit {a k : Nat} : (a &&& 2 ^ k = 0) ↔ a.testBit k = false := by
  refine ⟨fun h => ?_, fun h => ?_⟩
  · have h1 : (a &&& 2 ^ k).testBit k = false := by rw [h, Nat.zero_testBit]
    rw [Nat.testBit_and, Nat.testBit_two_pow, decide_eq_true rfl, Bool.and_true] at h1
    exact h1
  · apply Nat.eq_of_testBit_eq
    intro i
    rw [Nat.testBit_and, Nat.testBit_two_pow, Nat.zero_testBit]
    by_cases hk : k = i
    · subst hk
      rw [h, Bool.false_and]
    · rw [decide_eq_false hk, Bool.and_false]
theorem pw16 {k : Nat} (hk : k < 4) : 2 ^ k < 16 := Nat.pow_lt_pow_right (n := 4) (by decide) hk
theorem fw_sb {G T : SP} {k s : Nat} (hk4 : k < 4) (h4 : G 3 2 ≤ 4) (hF : finT G T) (hs : okS G (T 0 4) s) : (decide (s = 1000 + k) || fwT T (1000 + k) s) = (sbT (T 18) s).testBit k := by
  have he := hF.1.2.2.2.1
  simp only [sbT, fwT]
  rcases hs with h0 | h0 | h0
  · subst h0
    rw [if_pos rfl, fwM_no _ _ _ _ (by omega), Nat.zero_testBit, Bool.or_false]
    exact decide_eq_false (by omega)
  · rw [if_neg (by omega), if_neg (by omega), decide_eq_false (by omega), Bool.false_or]
    exact fwM_bit hk4 h4 he hF.2.2.2.2.1 (T 0 4) s (Nat.le_refl _) h0
  · rw [if_neg (by omega), if_pos h0.1, fwM_no _ _ _ _ (by omega), Bool.or_false, Nat.testBit_two_pow]
    by_cases hk : s = 1000 + k
    · rw [decide_eq_true hk, decide_eq_true (by omega)]
    · rw [decide_eq_false hk, decide_eq_false (by omega)]
theorem t18_lt {G T : SP} {e : Nat} (h4 : G 3 2 ≤ 4) (he : e ≤ 400) (hE : ∀ i, i < e → okE G T i) : ∀ (n j : Nat), n ≤ e → j < n → T 18 j < 2 ^ G 3 2
  | 0, j, _, h => absurd h (by omega)
  | n + 1, j, hn, h => by
    by_cases hj : j = n
    · subst hj
      have hEj := hE j (by omega)
      have sb : ∀ s, okS G j s → sbT (T 18) s < 2 ^ G 3 2 := by
        intro s hs
        simp only [sbT]
        rcases hs with h0 | h0 | h0
        · rw [if_pos h0]; exact Nat.two_pow_pos _
        · rw [if_neg (by omega), if_neg (by omega)]
          exact t18_lt h4 he hE j s (by omega) h0
        · rw [if_neg (by omega), if_pos h0.1]
          exact Nat.pow_lt_pow_right (by decide) (by omega)
      rw [hEj.2.2.2.2.2.2.2.2]
      exact Nat.or_lt_two_pow (sb _ hEj.2.2.2.2.2.2.1) (sb _ hEj.2.2.2.2.2.2.2.1)
    · exact t18_lt h4 he hE n j (by omega) (by omega)
