/-! the matrix of slopes: the class -/
def okA (A : SP) : Prop := ∀ r c, A r c < 1000000007
theorem okA_up {A : SP} {r c v : Nat} (h : okA A) (hv : v < 1000000007) : okA (up A r c v) := by
  intro i j
  rw [up_ap]
  split
  · exact hv
  · exact h i j
def mxR (I : HI) (A : SP) (nr nc : Nat) : Prop := ∀ r c, r < nr → c < nc → I 77 (4 * r + c) = nI (A r c)
theorem mxR_up {I : HI} {A : SP} {nr nc r c v : Nat} (hc : nc ≤ 4) (hcc : c < nc) (h : mxR I A nr nc) : mxR (up I 77 (4 * r + c) (nI v)) (up A r c v) nr nc := by
  intro i j hi hj
  rw [up_ap, up_ap]
  by_cases hh : i = r ∧ j = c
  · rw [if_pos hh, if_pos ⟨rfl, by omega⟩]
  · rw [if_neg hh, if_neg (fun q => hh (by omega))]
    exact h i j hi hj
/-- the first row from i on whose place in that column isn't 0; i + m if none -/
def fsW (A : SP) (c : Nat) : Nat → Nat → Nat
  | 0, i => i
  | m + 1, i => if A i c = 0 then fsW A c m (i + 1) else i
def swA (A : SP) (r q : Nat) : Nat → SP
  | 0 => A
  | c + 1 => up (up (swA A r q c) r c (swA A r q c q c)) q c (swA A r q c r c)
/-- row i less f times row r, from column c on -/
def roA (i r f : Nat) : Nat → Nat → SP → SP
  | 0, _, A => A
  | m + 1, c, A => roA i r f m (c + 1) (up A i c (sP (A i c) (mP (f * A r c))))
def clA (r c v nc : Nat) : Nat → Nat → SP → SP
  | 0, _, A => A
  | m + 1, i, A => clA r c v nc m (i + 1) (roA i r (mP (A i c * v)) (nc - c) c A)
theorem fsW_le (A : SP) (c : Nat) : ∀ m i, fsW A c m i ≤ i + m ∧ i ≤ fsW A c m i
  | 0, i => ⟨Nat.le_refl _, Nat.le_refl _⟩
  | m + 1, i => by
    simp only [fsW]
    split
    · have := fsW_le A c m (i + 1)
      omega
    · omega
theorem swA_ok {A : SP} (h : okA A) (r q : Nat) : ∀ c, okA (swA A r q c)
  | 0 => h
  | c + 1 => okA_up (okA_up (swA_ok h r q c) (swA_ok h r q c _ _)) (swA_ok h r q c _ _)
theorem roA_ok (i r f : Nat) : ∀ (m c : Nat) (A : SP), okA A → okA (roA i r f m c A)
  | 0, _, _, h => h
  | m + 1, c, A, h => roA_ok i r f m (c + 1) _ (okA_up h (sP_lt _ _))
theorem clA_ok (r c v nc : Nat) : ∀ (m i : Nat) (A : SP), okA A → okA (clA r c v nc m i A)
  | 0, _, _, h => h
  | m + 1, i, A, h => clA_ok r c v nc m (i + 1) _ (roA_ok _ _ _ _ _ _ h)
section BI
variable {d : Nat} {I : HI} {J : HJ} {R : HR} {A : SP} {nr nc : Nat}
theorem mx_i (r c : Nat) : nI r * 4 + nI c = nI (4 * r + c) := by
  rw [show nI r * 4 = nI (r * 4) from (Int32.ofNat_mul r 4).symm, nI_add, Nat.mul_comm]
theorem t_mget {r c : Nat} {Q : Int32 → Prop} (hs : Stat R) (hnr : nr ≤ 20) (hnc : nc ≤ 4) (hr : r < nr) (hc : c < nc) (hM : mxR I A nr nc) (h : Q (nI (A r c))) : Wp fi (d + 1) M_X2_get [.ref 76, .int (nI r), .int (nI c)] I J R Q := by
  refine e_X2_get hs ?_
  rw [mx_i]
  refine ⟨fun q => absurd q (nI_pos (by omega)), fun _ => ⟨fun q => absurd q (nI_ge (b := 80) (by omega) (by omega)), fun _ => ⟨4 * r + c, rfl, by omega, ?_⟩⟩⟩
  rw [hM r c hr hc]
  exact h
theorem t_mput {r c : Nat} {v : Int32} {Q : Unit → HI → Prop} (hs : Stat R) (hnr : nr ≤ 20) (hnc : nc ≤ 4) (hr : r < nr) (hc : c < nc) (h : Q () (up I 77 (4 * r + c) v)) : Wc fv (d + 1) M_X2_put [.ref 76, .int (nI r), .int (nI c), .int v] I J R Q := by
  refine e_X2_put hs ?_
  rw [mx_i]
  exact ⟨fun q => absurd q (nI_pos (by omega)), fun _ => ⟨fun q => absurd q (nI_ge (b := 80) (by omega) (by omega)), fun _ => ⟨4 * r + c, rfl, by omega, h⟩⟩⟩
theorem t_firstWith {c i : Nat} {Q : Int32 → Prop} (hs : Stat R) (hnr : nr ≤ 20) (hnc : nc ≤ 4) (hc : c < nc) (hi : i ≤ nr) (hA : okA A) (hM : mxR I A nr nc) (h : Q (if fsW A c (nr - i) i = nr then -1 else nI (fsW A c (nr - i) i))) : Wp fi (d + 2) M_X2_firstWith [.ref 76, .int (nI c), .int (nI i), .int (nI nr)] I J R Q := by
  refine ⟨Nat.le_of_ble_eq_true rfl, fun K hK => ?_⟩
  have loop : ∀ (m j : Nat), j + m = nr → fsW A c m j = fsW A c (nr - i) i → K 3 [(0, .ref 76), (1, .int (nI c)), (3, .int (nI nr)), (4, .int (nI j))] [] I J R := by
    intro m
    induction m with
    | zero =>
      intro j hj he
      simp only [fsW] at he
      refine g_X2_firstWith_3 hK hs ⟨fun _ => ?_, fun q => absurd (nI_le (by omega) (by omega)) q⟩
      rw [if_pos (by omega)] at h
      exact h
    | succ m ih =>
      intro j hj he
      simp only [fsW] at he
      refine g_X2_firstWith_3 hK hs ⟨fun q => absurd q (nI_ge (by omega) (by omega)), fun _ => ?_⟩
      refine t_mget hs hnr hnc (by omega) hc hM ?_
      have hlt := hA j c
      have cz : (nI (A j c) = 0) ↔ A j c = 0 := nI_eq (b := 0) (by omega) (by decide)
      rw [cz, nI_1]
      refine ⟨fun q => ?_, fun q => ?_⟩
      · rw [if_pos q] at he
        exact ih (j + 1) (by omega) he
      · rw [if_neg q] at he
        rw [← he, if_neg (by omega)] at h
        exact h
  exact g_X2_firstWith_0 hK hs (loop (nr - i) i (by omega) rfl)
theorem t_swapRows {r q : Nat} {Q : Unit → HI → Prop} (hs : Stat R) (hnr : nr ≤ 20) (hnc : nc ≤ 4) (hr : r < nr) (hq : q < nr) (hA : okA A) (hM : mxR I A nr nc) (h : ∀ I', (∀ a, ¬ a = 77 → I' a = I a) → mxR I' (swA A r q nc) nr nc → Q () I') : Wc fv (d + 2) M_X2_swapRows [.ref 76, .int (nI r), .int (nI q), .int (nI nc)] I J R Q := by
  refine ⟨Nat.le_of_ble_eq_true rfl, fun K hK => ?_⟩
  have loop : ∀ (m c : Nat) (I1 : HI), c + m = nc → (∀ a, ¬ a = 77 → I1 a = I a) → mxR I1 (swA A r q c) nr nc → K 3 [(0, .ref 76), (1, .int (nI r)), (2, .int (nI q)), (3, .int (nI nc)), (4, .int (nI c))] [] I1 J R := by
    intro m
    induction m with
    | zero =>
      intro c I1 hc hf hM1
      have hce : c = nc := by omega
      subst hce
      exact g_X2_swapRows_3 hK hs ⟨fun _ => h I1 hf hM1, fun z => absurd (nI_le (Nat.le_refl _) (by omega)) z⟩
    | succ m ih =>
      intro c I1 hc hf hM1
      refine g_X2_swapRows_3 hK hs ⟨fun z => absurd z (nI_ge (by omega) (by omega)), fun _ => ?_⟩
      refine t_mget hs hnr hnc hr (by omega) hM1 ?_
      refine t_mget hs hnr hnc hq (by omega) hM1 ?_
      refine t_mput hs hnr hnc hr (by omega) ?_
      refine t_mput hs hnr hnc hq (by omega) ?_
      rw [nI_1]
      exact ih (c + 1) _ (by omega) (fun a ha => (up_ne _ _ _ _ ha).trans ((up_ne _ _ _ _ ha).trans (hf a ha))) (mxR_up hnc (by omega) (mxR_up hnc (by omega) hM1))
  exact g_X2_swapRows_0 hK hs (loop nc 0 I (by omega) (fun _ _ => rfl) hM)
theorem t_clearBelow {r c : Nat} {Q : Unit → HI → Prop} (hs : Stat R) (hnr : nr ≤ 20) (hnc : nc ≤ 4) (hr : r < nr) (hc : c < nc) (hA : okA A) (hM : mxR I A nr nc) (h : ∀ I', (∀ a, ¬ a = 77 → I' a = I a) → mxR I' (clA r c (ivP (A r c)) nc (nr - (r + 1)) (r + 1) A) nr nc → Q () I') : Wc fv (d + 2) M_X2_clearBelow [.ref 76, .int (nI r), .int (nI c), .int (nI nr), .int (nI nc)] I J R Q := by
  refine ⟨Nat.le_of_ble_eq_true rfl, fun K hK => ?_⟩
  have loop : ∀ (m i : Nat) (I1 : HI) (B : SP), i + m = nr → okA B → (∀ a, ¬ a = 77 → I1 a = I a) → mxR I1 B nr nc → clA r c (ivP (A r c)) nc m i B = clA r c (ivP (A r c)) nc (nr - (r + 1)) (r + 1) A → K 16 [(0, .ref 76), (1, .int (nI r)), (2, .int (nI c)), (3, .int (nI nr)), (4, .int (nI nc)), (5, .int (nI (ivP (A r c)))), (6, .int (nI i))] [] I1 J R := by
    intro m
    induction m with
    | zero =>
      intro i I1 B hi hB hf hM1 he
      have hie : i = nr := by omega
      subst hie
      refine g_X2_clearBelow_16 hK hs ⟨fun _ => h I1 hf ?_, fun z => absurd (nI_le (Nat.le_refl _) (by omega)) z⟩
      rw [← he]
      exact hM1
    | succ m ih =>
      intro i I1 B hi hB hf hM1 he
      simp only [clA] at he
      refine g_X2_clearBelow_16 hK hs ⟨fun z => absurd z (nI_ge (by omega) (by omega)), fun _ => ?_⟩
      refine t_mget hs hnr hnc (by omega) hc hM1 ?_
      refine t_times hs (hB _ _) (ivP_lt _) ?_
      have inner : ∀ (n j : Nat) (I2 : HI) (C : SP), j + n = nc → okA C → (∀ a, ¬ a = 77 → I2 a = I a) → mxR I2 C nr nc → roA i r (mP (B i c * ivP (A r c))) n j C = roA i r (mP (B i c * ivP (A r c))) (nc - c) c B → K 39 [(0, .ref 76), (1, .int (nI r)), (2, .int (nI c)), (3, .int (nI nr)), (4, .int (nI nc)), (5, .int (nI (ivP (A r c)))), (6, .int (nI i)), (7, .int (nI (mP (B i c * ivP (A r c))))), (8, .int (nI j))] [] I2 J R := by
        intro n
        induction n with
        | zero =>
          intro j I2 C hj hC hf2 hM2 he2
          have hje : j = nc := by omega
          subst hje
          simp only [roA] at he2
          refine g_X2_clearBelow_39 hK hs ⟨fun _ => ?_, fun z => absurd (nI_le (Nat.le_refl _) (by omega)) z⟩
          rw [nI_1]
          refine ih (i + 1) I2 C (by omega) hC hf2 hM2 ?_
          rw [he2]
          exact he
        | succ n ihn =>
          intro j I2 C hj hC hf2 hM2 he2
          simp only [roA] at he2
          refine g_X2_clearBelow_39 hK hs ⟨fun z => absurd z (nI_ge (by omega) (by omega)), fun _ => ?_⟩
          refine t_mget hs hnr hnc (by omega) (by omega) hM2 ?_
          refine t_mget hs hnr hnc hr (by omega) hM2 ?_
          refine t_times hs (mP_lt _) (hC _ _) ?_
          refine t_minus hs (hC _ _) (mP_lt _) ?_
          refine t_mput hs hnr hnc (by omega) (by omega) ?_
          rw [nI_1]
          exact ihn (j + 1) _ _ (by omega) (okA_up hC (sP_lt _ _)) (fun a ha => (up_ne _ _ _ _ ha).trans (hf2 a ha)) (mxR_up hnc (by omega) hM2) he2
      exact inner (nc - c) c I1 B (by omega) hB hf hM1 rfl
  refine g_X2_clearBelow_0 hK hs ?_
  refine t_mget hs hnr hnc hr hc hM ?_
  refine t_inverse hs (hA _ _) ?_
  rw [nI_1]
  exact loop (nr - (r + 1)) (r + 1) I A (by omega) hA (fun _ _ => rfl) hM rfl
end BI
