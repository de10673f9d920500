/-! the small ones of the class: Slots, Arrays.fill, Answers, Program -/
theorem or_nI (a b : Nat) : nI a ||| nI b = nI (a ||| b) := by
  apply Int32.toBitVec_inj.mp
  simp [nI, Int32.toBitVec_or, Int32.toBitVec_ofNat, BitVec.ofNat_or]
theorem or_sum {a k : Nat} (b : Nat) (h : a < 2 ^ k) : (2 ^ k * b) ||| a = 2 ^ k * b + a := (Nat.two_pow_add_eq_or_of_lt h b).symm
def sI (s : Nat) : Int32 := if s = 5000 then -2 else nI s
theorem sI_n {s : Nat} (h : s ≠ 5000) : sI s = nI s := by simp [sI, h]
theorem sI_0 : sI 5000 = -2 := rfl
section SM
variable {d : Nat} {I : HI} {J : HJ} {R : HR} {o : Nat}
theorem t_valueAt {n k : Nat} {Q : Int32 → Prop} (hs : Stat R) (ho : isX8 o) (hz : I o 2 = nI n) (hn : n ≤ 48) (hk : k < n) (h : Q (I (o + 1) k)) : Wp fi (d + 1) M_X8_valueAt [.ref o, .int (nI k)] I J R Q := by
  refine e_X8_valueAt hs ho ?_
  rw [hz]
  exact ⟨fun hc => absurd hc (nI_pos (by omega)), fun _ => ⟨fun hc => absurd hc (nI_ge hk (by omega)), fun _ => ⟨k, rfl, by omega, h⟩⟩⟩
theorem t_sourceAt {n k : Nat} {Q : Int32 → Prop} (hs : Stat R) (ho : isX8 o) (hz : I o 2 = nI n) (hn : n ≤ 48) (hk : k < n) (h : Q (I (o + 2) k)) : Wp fi (d + 1) M_X8_sourceAt [.ref o, .int (nI k)] I J R Q := by
  refine e_X8_sourceAt hs ho ?_
  rw [hz]
  exact ⟨fun hc => absurd hc (nI_pos (by omega)), fun _ => ⟨fun hc => absurd hc (nI_ge hk (by omega)), fun _ => ⟨k, rfl, by omega, h⟩⟩⟩
theorem t_sput {n k : Nat} {v s : Int32} {Q : Unit → HI → Prop} (hs : Stat R) (ho : isX8 o) (hz : I o 2 = nI n) (hn : n ≤ 48) (hk : k < n) (h : Q () (up (up I (o + 1) k v) (o + 2) k s)) : Wc fv (d + 1) M_X8_put [.ref o, .int (nI k), .int v, .int s] I J R Q := by
  refine e_X8_put hs ho ?_
  rw [hz]
  exact ⟨fun hc => absurd hc (nI_pos (by omega)), fun _ => ⟨fun hc => absurd hc (nI_ge hk (by omega)), fun _ => ⟨k, rfl, by omega, h⟩⟩⟩
theorem t_sadd {n : Nat} {v s : Int32} {Q : Unit → HI → Prop} (hs : Stat R) (ho : isX8 o) (hz : I o 2 = nI n) (hn : n < 48) (h : Q () (up (up (up I (o + 1) n v) (o + 2) n s) o 2 (nI (n + 1)))) : Wc fv (d + 1) M_X8_add [.ref o, .int v, .int s] I J R Q := by
  refine e_X8_add hs ho ?_
  rw [hz, nI_1]
  exact ⟨fun hc => absurd hc (nI_pos (by omega)), fun _ => ⟨fun hc => absurd hc (nI_ge (b := 48) hn (by omega)), fun _ => ⟨n, rfl, by omega, h⟩⟩⟩
theorem t_sdrop {n k : Nat} {Q : Unit → HI → Prop} (hs : Stat R) (ho : isX8 o) (hz : I o 2 = nI n) (hn : n ≤ 48) (hk : k ≤ n) (h : Q () (up I o 2 (nI (n - k)))) : Wc fv (d + 1) M_X8_drop [.ref o, .int (nI k)] I J R Q := by
  refine e_X8_drop hs ho ?_
  rw [hz, pk_sub hk]
  split
  · exact h
  · rename_i hc
    have : n - k = 0 := by
      rcases Nat.eq_zero_or_pos (n - k) with h0 | h0
      · exact h0
      · exact absurd (nI_lt (a := 0) h0 (by omega)) hc
    rw [this] at h
    exact h
/-- all of a row's first places alike -/
def fillI (I : HI) (a n : Nat) (v : Int32) : HI := fun b j => if b = a ∧ j < n then v else I b j
theorem fillI_0 (I : HI) (a : Nat) (v : Int32) : fillI I a 0 v = I := by
  funext b j
  simp [fillI]
theorem fillI_up (I : HI) (a n : Nat) (v : Int32) : up (fillI I a n v) a n v = fillI I a (n + 1) v := by
  funext b j
  simp only [up, fillI]
  by_cases h1 : b = a
  · subst h1
    by_cases h2 : j = n
    · subst h2; simp
    · by_cases h3 : j < n
      · simp [h2, h3, Nat.lt_succ_of_lt h3]
      · simp [h2, h3, show ¬ j < n + 1 by omega]
  · simp [h1]
theorem t_fill {a N : Nat} {v : Int32} {Q : Unit → HI → Prop} (hs : Stat R) (ha : am_is R a 13) (hl : (am_T a).2 = N) (hN : N ≤ 10000) (h : Q () (fillI I a N v)) : Wc fv (d + 1) M_J7_fill_53178 [.ref a, .int v] I J R Q := by
  refine ⟨Nat.le_of_ble_eq_true rfl, fun K hK => ?_⟩
  refine g_J7_fill_53178_0 hK hs ha hl hN ?_
  have key : ∀ m i : Nat, i + m = N → K 5 [(0, .ref a), (1, .int v), (2, .int (nI i)), (3, .int (nI N))] [] (fillI I a i v) J R := by
    intro m
    induction m with
    | zero =>
      intro i hi
      have : i = N := by omega
      subst this
      exact g_J7_fill_53178_5 hK hs ha hl hN ⟨fun _ => h, fun hc => absurd (nI_le (Nat.le_refl i) (by omega)) hc⟩
    | succ m ih =>
      intro i hi
      refine g_J7_fill_53178_5 hK hs ha hl hN ⟨fun hc => absurd hc (nI_ge (by omega) (by omega)), fun _ => ⟨i, rfl, by omega, ?_⟩⟩
      rw [nI_1, fillI_up]
      exact ih (i + 1) (by omega)
  have k := key N 0 (by omega)
  rw [fillI_0] at k
  exact k
/-- Slots.clear -/
def clrI (I : HI) (o m : Nat) : HI := fillI (fillI (up I o 2 (nI m)) (o + 1) m 0) (o + 2) m (-2)
theorem t_sclear {m : Nat} {Q : Unit → HI → Prop} (hs : Stat R) (ho : isX8 o) (hm : m ≤ 48) (h : Q () (clrI I o m)) : Wc fv (d + 1) M_X8_clear [.ref o, .int (nI m)] I J R Q := by
  refine ⟨Nat.le_of_ble_eq_true rfl, fun K hK => ?_⟩
  refine g_X8_clear_0 hK hs ho ?_
  have e : (if (48 : Int32) < nI m then (48 : Int32) else nI m) = nI m := by
    exact if_neg (nI_nlt (b := m) (a := 48) hm (by omega))
  have e2 : (if (0 : Int32) < nI m then nI m else 0) = nI m := by
    split
    · rfl
    · rename_i hc
      rcases Nat.eq_zero_or_pos m with h0 | h0
      · subst h0; rfl
      · exact absurd (nI_lt (a := 0) h0 (by omega)) hc
  rw [e, e2]
  have key : ∀ r i : Nat, i + r = m → K 16 [(0, .ref o), (2, .int (nI i))] [] (fillI (fillI (up I o 2 (nI m)) (o + 1) i 0) (o + 2) i (-2)) J R := by
    intro r
    induction r with
    | zero =>
      intro i hi
      have : i = m := by omega
      subst this
      refine g_X8_clear_16 hK hs ho ⟨fun _ => h, fun hc => absurd ?_ hc⟩
      simp [fillI, up]
    | succ r ih =>
      intro i hi
      have e3 : fillI (fillI (up I o 2 (nI m)) (o + 1) i 0) (o + 2) i (-2) o 2 = nI m := by simp [fillI, up]
      refine g_X8_clear_16 hK hs ho ?_
      rw [e3]
      refine ⟨fun hc => absurd hc (nI_ge (by omega) (by omega)), fun _ => ⟨i, rfl, by omega, ?_⟩⟩
      rw [nI_1]
      have e4 : up (up (fillI (fillI (up I o 2 (nI m)) (o + 1) i 0) (o + 2) i (-2)) (o + 1) i 0) (o + 2) i (-2) = fillI (fillI (up I o 2 (nI m)) (o + 1) (i + 1) 0) (o + 2) (i + 1) (-2) := by
        rw [← fillI_up, ← fillI_up (up I o 2 (nI m))]
        congr 1
        funext b j
        simp only [up, fillI]
        by_cases h1 : b = o + 1
        · subst h1; simp
        · simp [h1]
      rw [e4]
      exact ih (i + 1) (by omega)
  have k := key m 0 (by omega)
  rw [fillI_0, fillI_0] at k
  exact k
/-- an instruction as one number -/
def pk (op arg more : Nat) : Nat := 1024 * arg + 16 * more + op
theorem t_emit {n op arg more : Nat} {Q : Unit → HI → Prop} (hs : Stat R) (ho : isX5 o) (hz : I o 1 = nI n) (hn : n < 900) (h1 : op < 16) (h2 : more < 64) (h3 : arg < 100000) (h : Q () (up (up I (o + 1) n (nI (pk op arg more))) o 1 (nI (n + 1)))) : Wc fv (d + 1) M_X5_emit [.ref o, .int (nI op), .int (nI arg), .int (nI more)] I J R Q := by
  refine e_X5_emit hs ho ?_
  rw [hz, nI_1]
  refine ⟨fun hc => absurd hc (nI_ge (b := 900) hn (by omega)), fun _ => ⟨n, rfl, by omega, ?_⟩⟩
  have e1 : nI arg <<< ((10 : Int32) &&& 31) = nI (arg * 2 ^ 10) := pk_shlN _ 10 (by decide) (by omega)
  have e2 : nI more <<< ((4 : Int32) &&& 31) = nI (more * 2 ^ 4) := pk_shlN _ 4 (by decide) (by omega)
  rw [e1, e2, or_nI, or_nI]
  have e3 : arg * 2 ^ 10 ||| more * 2 ^ 4 = 2 ^ 4 * (64 * arg + more) := by
    have := or_sum (a := more * 2 ^ 4) (k := 10) arg (by omega)
    rw [Nat.mul_comm (2 ^ 10) arg] at this
    rw [this]; omega
  rw [e3, or_sum _ (by omega : op < 2 ^ 4)]
  have e4 : 2 ^ 4 * (64 * arg + more) + op = pk op arg more := by simp only [pk]; omega
  rw [e4]
  exact h
theorem t_leadHere {n i w : Nat} {Q : Unit → HI → Prop} (hs : Stat R) (ho : isX5 o) (hz : I o 1 = nI n) (hn : n ≤ 900) (hi : i < n) (hw : I (o + 1) i = nI w) (hw2 : w < 2 ^ 31) (h : Q () (up I (o + 1) i (nI (1024 * n + w % 1024)))) : Wc fv (d + 1) M_X5_leadHere [.ref o, .int (nI i)] I J R Q := by
  refine e_X5_leadHere hs ho ?_
  rw [hz]
  refine ⟨fun hc => absurd hc (nI_pos (by omega)), fun _ => ⟨fun hc => absurd hc (nI_ge hi (by omega)), fun _ => ⟨i, rfl, by omega, ?_⟩⟩⟩
  have e1 : nI n <<< ((10 : Int32) &&& 31) = nI (n * 2 ^ 10) := pk_shlN _ 10 (by decide) (by omega)
  have e2 : nI w &&& 1023 = nI (w % 2 ^ 10) := pk_andN (by omega) 10 (by decide)
  rw [hw, e1, e2, or_nI]
  have := or_sum (a := w % 2 ^ 10) (k := 10) n (by omega)
  rw [Nat.mul_comm (2 ^ 10) n] at this
  rw [this]
  have e4 : n * 2 ^ 10 + w % 2 ^ 10 = 1024 * n + w % 1024 := by omega
  rw [e4]
  exact h
theorem t_kindAt {n i w : Nat} {Q : Int32 → Prop} (hs : Stat R) (ho : isX5 o) (hz : I o 1 = nI n) (hn : n ≤ 900) (hi : i < n) (hw : I (o + 1) i = nI w) (hw2 : w < 2 ^ 31) (h : Q (nI (w % 16))) : Wp fi (d + 1) M_X5_kindAt [.ref o, .int (nI i)] I J R Q := by
  refine e_X5_kindAt hs ho ?_
  rw [hz]
  refine ⟨fun hc => absurd hc (nI_pos (by omega)), fun _ => ⟨fun hc => absurd hc (nI_ge hi (by omega)), fun _ => ⟨i, rfl, by omega, ?_⟩⟩⟩
  have e2 : nI w &&& 15 = nI (w % 2 ^ 4) := pk_andN (by omega) 4 (by decide)
  rw [hw, e2]
  exact h
theorem t_operandAt {n i w : Nat} {Q : Int32 → Prop} (hs : Stat R) (ho : isX5 o) (hz : I o 1 = nI n) (hn : n ≤ 900) (hi : i < n) (hw : I (o + 1) i = nI w) (hw2 : w < 2 ^ 31) (h : Q (nI (w / 1024))) : Wp fi (d + 1) M_X5_operandAt [.ref o, .int (nI i)] I J R Q := by
  refine e_X5_operandAt hs ho ?_
  rw [hz]
  refine ⟨fun hc => absurd hc (nI_pos (by omega)), fun _ => ⟨fun hc => absurd hc (nI_ge hi (by omega)), fun _ => ⟨i, rfl, by omega, ?_⟩⟩⟩
  have e2 : nI w >>> ((10 : Int32) &&& 31) = nI (w / 2 ^ 10) := pk_shrN hw2 _ 10 (by decide)
  rw [hw, e2]
  exact h
theorem t_roundsAt {n i w : Nat} {Q : Int32 → Prop} (hs : Stat R) (ho : isX5 o) (hz : I o 1 = nI n) (hn : n ≤ 900) (hi : i < n) (hw : I (o + 1) i = nI w) (hw2 : w < 2 ^ 31) (h : Q (nI (w / 16 % 64))) : Wp fi (d + 1) M_X5_roundsAt [.ref o, .int (nI i)] I J R Q := by
  refine e_X5_roundsAt hs ho ?_
  rw [hz]
  refine ⟨fun hc => absurd hc (nI_pos (by omega)), fun _ => ⟨fun hc => absurd hc (nI_ge hi (by omega)), fun _ => ⟨i, rfl, by omega, ?_⟩⟩⟩
  have e2 : nI w >>> ((4 : Int32) &&& 31) = nI (w / 2 ^ 4) := pk_shrN hw2 _ 4 (by decide)
  have e3 : nI (w / 2 ^ 4) &&& 63 = nI (w / 2 ^ 4 % 2 ^ 6) := pk_andN (by omega) 6 (by decide)
  rw [hw, e2, e3]
  exact h
/-- which CELL; nothing where there is none -/
theorem t_cellOf {nr r i f z : Nat} {Q : Int32 → Prop} (hs : Stat R) (ho : isX5 o) (hz : I o 5 = nI nr) (hn : nr ≤ 6) (hr : r < nr) (hi : i < 2 ^ 31) (hf : I (o + 2) r = nI f) (hz2 : I (o + 3) r = nI z) (hfb : f < 1000) (hzb : z < 1000) (h : Q (if i < z then nI (f + i) else -1)) : Wp fi (d + 1) M_X5_cellOf [.ref o, .int (nI r), .int (nI i)] I J R Q := by
  refine e_X5_cellOf hs ho ?_
  rw [hz]
  refine ⟨fun hc => absurd hc (nI_pos (by omega)), fun _ => ⟨fun hc => absurd hc (nI_ge hr (by omega)), fun _ => ⟨fun hc => absurd hc (nI_pos hi), fun _ => ⟨r, rfl, by omega, ?_⟩⟩⟩⟩
  rw [hf, hz2, nI_add]
  by_cases hc : i < z
  · rw [if_pos hc] at h
    exact ⟨fun _ => h, fun hn => absurd (nI_lt hc (by omega)) hn⟩
  · rw [if_neg hc] at h
    exact ⟨fun hn => absurd hn (nI_nlt (by omega) hi), fun _ => h⟩
end SM
