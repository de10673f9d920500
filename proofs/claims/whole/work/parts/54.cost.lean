/-! cost: both sides -/
def hbM (T : SP) (m s : Nat) : Bool := !decide (sbT (T 18) s &&& m = 0)
def b2n (b : Bool) : Nat := if b = true then 1 else 0
def cst (T : SP) (m j : Nat) : Nat := if T 9 j = 5 then b2n (hbM T m (T 14 j)) + b2n (hbM T m (T 15 j)) else if T 9 j = 6 then (if (hbM T m (T 14 j) || hbM T m (T 15 j)) = true then 1 + b2n (hbM T m (T 15 j)) else 0) else 0
def costV (G T : SP) (x1 x2 : Int32) : Int32 := if x1 = 0 then (if inN x2 (G 3 2) = true then nI (smN (cst T (2 ^ xN x2)) (T 0 4)) else -1) else if x1 = 1 then (if inN x2 (T 0 3) = true then nI (smN (fun j => if bkT T (T 8 (xN x2)) j = true then cst T 15 j else 0) (T 0 4)) else -1) else -1
theorem or_z {a b m : Nat} : ((a ||| b) &&& m = 0) ↔ (a &&& m = 0 ∧ b &&& m = 0) := by
  have key : ∀ x : Nat, (x &&& m = 0) ↔ ∀ i, (x.testBit i && m.testBit i) = false := by
    intro x
    refine ⟨fun h i => ?_, fun h => ?_⟩
    · rw [← Nat.testBit_and, h, Nat.zero_testBit]
    · apply Nat.eq_of_testBit_eq
      intro i
      rw [Nat.testBit_and, Nat.zero_testBit]
      exact h i
  rw [key, key, key]
  refine ⟨fun h => ⟨fun i => ?_, fun i => ?_⟩, fun h i => ?_⟩
  · have := h i
    rw [Nat.testBit_or] at this
    cases ha : a.testBit i <;> cases hb : b.testBit i <;> cases hm : m.testBit i <;> simp_all
  · have := h i
    rw [Nat.testBit_or] at this
    cases ha : a.testBit i <;> cases hb : b.testBit i <;> cases hm : m.testBit i <;> simp_all
  · have h1 := h.1 i
    have h2 := h.2 i
    rw [Nat.testBit_or]
    cases ha : a.testBit i <;> cases hb : b.testBit i <;> cases hm : m.testBit i <;> simp_all
theorem a15 : ∀ n : Nat, n < 16 → n &&& 15 = n := by decide
theorem b2i_n (b : Bool) : b2i b = nI (b2n b) := by cases b <;> rfl
section BA
variable {d : Nat} {I : HI} {J : HJ} {R : HR} {o : Nat} {G T : SP} {D : Nat → Nat} {N : Nat → List Nat} {inp : Nat → Nat} {x1 x2 x3 : Int32}
theorem t_costOf {j m : Nat} {Q : Int32 → Prop} (hs : Stat R) (ho : isX9 o) (h4 : G 3 2 ≤ 4) (hF : finT G T) (hT : tpR I o T (T 0 4)) (hj : j < T 0 4) (hm : m < 16) (h : Q (nI (cst T m j))) : Wp fi (d + 2) M_X9_costOf [.ref o, .int (nI j), .int (nI m)] I J R Q := by
  have he := hF.1.2.2.2.1
  have hE := hF.2.2.2.2.1 j hj
  have o14 := okS_mono (Nat.le_of_lt hj) hE.2.2.2.2.2.2.1
  have o15 := okS_mono (Nat.le_of_lt hj) hE.2.2.2.2.2.2.2.1
  obtain ⟨p0, p1, p2, p3, p4, p5, p6, p7, p8, p9⟩ := id hT
  have n6 : T 9 j ≤ 6 := hE.2.1
  refine ⟨Nat.le_of_ble_eq_true rfl, fun K hK => ?_⟩
  have k34 : ∀ v : Bool, v = hbM T m (T 15 j) → K 34 [(0, .ref o), (1, .int (nI j)), (2, .int (nI m))] [.int (b2i v)] I J R := by
    intro v hv
    refine g_X9_costOf_34 hK hs ho ⟨j, rfl, by omega, ?_⟩
    have c5 : (nI (T 9 j) = 5) ↔ T 9 j = 5 := nI_eq (b := 5) (by omega) (by decide)
    have c6 : (nI (T 9 j) = 6) ↔ T 9 j = 6 := nI_eq (b := 6) (by omega) (by decide)
    rw [p1 j hj, p6 j hj, p9 j hj, c5, c6, and_z hm, b2i_n]
    simp only [cst] at h
    refine ⟨fun e5 => ⟨fun e6 => ?_, fun e6 => ⟨fun z => ?_, fun z => ?_⟩⟩, fun e5 => ?_⟩
    · rw [if_neg e5, if_neg e6] at h
      exact h
    · rw [if_neg e5, if_pos e6] at h
      rw [hE.2.2.2.2.2.2.2.2, or_z] at z
      rw [if_neg (by simp [hbM, z.1, z.2])] at h
      exact h
    · rw [if_neg e5, if_pos e6] at h
      rw [hE.2.2.2.2.2.2.2.2, or_z] at z
      have hz : (hbM T m (T 14 j) || hbM T m (T 15 j)) = true := by
        by_cases q : sbT (T 18) (T 14 j) &&& m = 0
        · have q2 : ¬ sbT (T 18) (T 15 j) &&& m = 0 := fun q2 => z ⟨q, q2⟩
          simp [hbM, q, q2]
        · simp [hbM, q]
      rw [if_pos hz, ← hv] at h
      rw [show (1 : Int32) + nI (b2n v) = nI (1 + b2n v) from nI_add 1 _]
      exact h
    · rw [if_pos e5, ← hv] at h
      refine t_bitsOf hs ho h4 he p0 p9 o14 ?_
      rw [and_z hm, nI_z, nI_1]
      refine ⟨fun z => ?_, fun z => ?_⟩
      · rw [show hbM T m (T 14 j) = false by simp [hbM, z], show b2n false = 0 from rfl, Nat.zero_add] at h
        exact h
      · rw [show hbM T m (T 14 j) = true by simp [hbM, z], show b2n true = 1 from rfl, Nat.add_comm] at h
        exact h
  refine g_X9_costOf_0 hK hs ho ⟨fun hc => absurd hc (nI_pos (by omega)), fun _ => ?_⟩
  rw [p0]
  refine ⟨fun _ => ⟨j, rfl, by omega, ?_⟩, fun hc => absurd (nI_lt hj (by omega)) hc⟩
  rw [p7 j hj]
  refine t_bitsOf hs ho h4 he p0 p9 o15 ?_
  rw [and_z hm]
  exact ⟨fun z => k34 false (by simp [hbM, z]), fun z => k34 true (by simp [hbM, z])⟩
theorem c_cost {Q : Int32 → HI → Prop} (hw : wfG G D N) (hF : finT G T) (hc : cQ I R G N T) (h : ∀ I', frC I I' → Q (costV G T x1 x2) I') : Wc fi (d + 4) M_X11_cost [.ref 0, .int x1, .int x2] I J R Q := by
  obtain ⟨hs, ⟨p, hp1, hp2, hp3⟩, ⟨n1, n2, n3⟩, v1, v2, v3, v4, v5, v6, v7⟩ := id hc
  have h4 := hw.2.2.2.2.2.1
  have he := hF.1.2.2.2.1
  have h20 := hF.1.2.2.2.2.1
  have fwd : ∀ (k : Nat) (Q' : Int32 → Prop), k < 4 → Q' (nI (smN (cst T (2 ^ k)) (T 0 4))) → Wp fi (d + 3) M_X11_costForward [.ref 0, .int (nI (2 ^ k))] I J R Q' := by
    intro k Q' hk hq
    refine ⟨Nat.le_of_ble_eq_true rfl, fun K hK => ?_⟩
    have loop : ∀ m i, i + m = T 0 4 → K 4 [(0, .ref 0), (1, .int (nI (2 ^ k))), (2, .int (nI (smN (cst T (2 ^ k)) i))), (3, .int (nI i))] [] I J R := by
      intro m
      induction m with
      | zero =>
        intro i hi
        have hie : i = T 0 4 := by omega
        subst hie
        refine g_X11_costForward_4 hK hs ?_
        rw [show I 30 0 = nI (T 0 4) from v5.1]
        exact ⟨fun _ => hq, fun hc => absurd (nI_le (Nat.le_refl _) (by omega)) hc⟩
      | succ m ih =>
        intro i hi
        have nx := ih (i + 1) (by omega)
        simp only [smN] at nx
        refine g_X11_costForward_4 hK hs ?_
        rw [show I 30 0 = nI (T 0 4) from v5.1]
        refine ⟨fun hc => absurd hc (nI_ge (by omega) (by omega)), fun _ => ?_⟩
        refine t_costOf hs (Or.inl rfl) h4 hF v5 (by omega) (pw16 hk) ?_
        rw [nI_add, nI_1]
        exact nx
    exact g_X11_costForward_0 hK hs (loop (T 0 4) 0 (by omega))
  have bwd : ∀ (k : Nat) (Q' : Int32 → HI → Prop), k < T 0 3 → (∀ I', frC I I' → Q' (nI (smN (fun j => if bkT T (T 8 k) j = true then cst T 15 j else 0) (T 0 4))) I') → Wc fi (d + 3) M_X11_costBackward [.ref 0, .int (nI k)] I J R Q' := by
    intro k Q' hk hq
    have hok := okN_S h4 he (hF.2.2.2.1 k hk).2
    have hsrc : I (27 + 2) k = sI (T 8 k) := v4.2.2 k hk
    refine ⟨Nat.le_of_ble_eq_true rfl, fun K hK => ?_⟩
    refine g_X11_costBackward_0 hK hs ?_
    refine t_sourceAt (n := T 0 3) hs (Or.inr (Or.inr (Or.inr (Or.inl rfl)))) v4.1 (by omega) hk ?_
    rw [hsrc]
    refine t_markBack hs (Or.inl rfl) h4 hF v5 hok (fun I1 f1 mm => ?_)
    have hfr := frC_c (c := 40) (Or.inl rfl) (by decide) (frC_rf (I := I)) f1
    have v5' := (cQ_fr hfr hc).2.2.2.2.2.2.2.1
    have loop : ∀ m i, i + m = T 0 4 → K 29 [(0, .ref 0), (2, .int 15), (3, .int (nI (smN (fun j => if bkT T (T 8 k) j = true then cst T 15 j else 0) i))), (4, .int (nI i))] [] I1 J R := by
      intro m
      induction m with
      | zero =>
        intro i hi
        have hie : i = T 0 4 := by omega
        subst hie
        refine g_X11_costBackward_29 hK hs ?_
        rw [show I1 30 0 = nI (T 0 4) from v5'.1]
        exact ⟨fun _ => hq I1 hfr, fun hc => absurd (nI_le (Nat.le_refl _) (by omega)) hc⟩
      | succ m ih =>
        intro i hi
        have nx := ih (i + 1) (by omega)
        simp only [smN] at nx
        refine g_X11_costBackward_29 hK hs ?_
        rw [show I1 30 0 = nI (T 0 4) from v5'.1, nI_1]
        refine ⟨fun hc => absurd hc (nI_ge (by omega) (by omega)), fun _ => ?_⟩
        refine t_isMarkedN (M := bkT T (T 8 k)) hs (Or.inl rfl) (by omega) mm ⟨fun hb => ?_, fun hb => ?_⟩
        · rw [hb, if_neg (by decide), Nat.add_zero] at nx
          exact nx
        · rw [hb, if_pos rfl] at nx
          refine t_costOf (m := 15) hs (Or.inl rfl) h4 hF v5' (by omega) (by decide) ?_
          rw [nI_add]
          exact nx
    exact loop (T 0 4) 0 (by omega)
  refine e_X11_cost hs ?_
  simp only [costV] at h
  refine ⟨fun e0 => ⟨fun e1 => ?_, fun e1 => ?_⟩, fun e0 => ?_⟩
  · rw [if_neg e0, if_neg e1] at h
    exact h I frC_rf
  · rw [if_neg e0, if_pos e1] at h
    refine t_hasOut (T := T) hs hF v4.1 ⟨fun hb => ?_, fun hb => ?_⟩
    · rw [hb, if_neg (by decide)] at h
      exact h I frC_rf
    · rw [hb, if_pos rfl] at h
      obtain ⟨k, ck, c0, c2⟩ := in_ex (by omega) hb
      rw [c2] at h
      rw [ck]
      exact bwd k _ c0 h
  · rw [if_pos e0] at h
    have e1 : ¬ x1 = 1 := by rw [e0]; decide
    refine t_hasInput hs h4 hp1 hp2 hp3.2.2.1 ⟨fun hb => ⟨fun _ => ?_, fun q => absurd q e1⟩, fun hb => ?_⟩
    · rw [hb, if_neg (by decide)] at h
      exact h I frC_rf
    · rw [hb, if_pos rfl] at h
      obtain ⟨k, ck, c0, c2⟩ := in_ex (by omega) hb
      rw [c2] at h
      rw [ck, shl1 (by omega)]
      exact fwd k _ (by omega) (h I frC_rf)
end BA
