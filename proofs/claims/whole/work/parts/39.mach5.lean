section M5
variable {d : Nat} {I : HI} {J : HJ} {R : HR} {o p : Nat} {G T : SP} {D : Nat → Nat} {N : Nat → List Nat}
theorem sI_m2 : (-2 : Int32) = sI 5000 := rfl
theorem nI_0' : (0 : Int32) = nI 0 := rfl
theorem t_beginLoop {v : Nat} {L : List Nat} {Q : Unit → HI → Prop} (hs : Stat R) (ho : isX1 o) (hv : v < G 3 3) (hv8 : G 3 3 ≤ 8) (hL : L.length < 4) (hS : slR I (o + 1) (T 3) (T 4) (G 3 3)) (hlp : I o 8 = nI L.length) (h : Q () (up (up (up (up I (o + 1 + 1) v (nI 0)) (o + 1 + 2) v (sI 5000)) (o + 26) L.length (nI 0)) o 8 (nI (L.length + 1)))) : Wc fv (d + 2) M_X1_beginLoop [.ref o, .int (nI v)] I J R Q := by
  refine e_X1_beginLoop hs ho ?_
  refine t_sput hs (sub_X1_1 ho) hS.1 (by omega) hv ?_
  have e8 : up (up I (o + 1 + 1) v 0) (o + 1 + 2) v (-2) o 8 = nI L.length := (up_na (by omega)).trans ((up_na (by omega)).trans hlp)
  rw [e8, nI_1]
  exact ⟨fun hc => absurd hc (nI_pos (by omega)), fun _ => ⟨fun hc => absurd hc (nI_ge (b := 4) hL (by omega)), fun _ => ⟨L.length, rfl, hL, h⟩⟩⟩
theorem t_goesRound {l : Nat} {L : List Nat} {Q : Bool → HI → Prop} (hs : Stat R) (ho : isX1 o) (hp : isX5 p) (hR : R o 0 = some p) (hw : wfG G D N) (hP : pR I p G) (hl : l < G 3 0) (hv : G 1 l < G 3 3) (hg : T 17 l < 1000) (hg2 : G 2 l < 1000) (hL : L.length < 4) (hS : slR I (o + 1) (T 3) (T 4) (G 3 3)) (hlp : lpR I o (T 17) (l :: L))
    (h1 : T 17 l + 1 = G 2 l → Q false (up (up I (o + 26) L.length (nI (T 17 l + 1))) o 8 (nI L.length)))
    (h2 : ¬ T 17 l + 1 = G 2 l → Q true (up (up (up I (o + 26) L.length (nI (T 17 l + 1))) (o + 1 + 1) (G 1 l) (nI (T 17 l + 1))) (o + 1 + 2) (G 1 l) (sI 5000))) : Wc fb (d + 2) M_X1_goesRound [.ref o, .int (nI l)] I J R Q := by
  refine e_X1_goesRound hs ho ?_
  have w8 : G 3 3 ≤ 8 := hw.2.2.2.2.2.2.2.1
  have e8 : I o 8 = nI (L.length + 1) := hlp.1
  have e0 : I (o + 26) L.length = nI (T 17 l) := by
    have := hlp.2 0 l rfl
    simpa using this
  rw [e8, sub1 (by omega)]
  simp only [Nat.add_sub_cancel]
  have hfr : frM o I (up I (o + 26) L.length (nI (T 17 l + 1))) := frM_up (by omega) (by omega)
  have hP2 := pR_fr hp ho hfr hP
  refine ⟨fun hc => absurd hc (nI_pos (by omega)), fun _ => ⟨fun _ => ⟨L.length, rfl, hL, p, hR, hp, ?_⟩, fun hc => absurd (nI_lt (b := 4) hL (by omega)) hc⟩⟩
  rw [e0, nI_1]
  refine t_prounds hs hp hw hP2 hl ?_
  refine ⟨fun hc => ?_, fun hc => ?_⟩
  · refine t_poperand hs hp hw hP2 hl ?_
    have hS2 : slR (up I (o + 26) L.length (nI (T 17 l + 1))) (o + 1) (T 3) (T 4) (G 3 3) := (slR_ne (by omega) (by omega) (by omega)).mpr hS
    refine t_sput hs (sub_X1_1 ho) hS2.1 (by omega) hv ?_
    exact h2 (fun q => hc (by rw [q]))
  · exact h1 ((nI_eq (by omega) (by omega)).mp hc)
theorem lpR_push {I : HI} {f : Nat → Nat} {L : List Nat} {a : Nat} (ha : ∀ x ∈ L, ¬ x = a) (h : lpR I o f L) : lpR (up (up I (o + 26) L.length (nI 0)) o 8 (nI (L.length + 1))) o (fun j => if j = a then 0 else f j) (a :: L) := by
  obtain ⟨h0, h1⟩ := h
  refine ⟨by simp [up_ap], fun j l hj => ?_⟩
  rw [up_ne _ _ _ _ (show ¬ o + 26 = o by omega)]
  cases j with
  | zero =>
    simp at hj
    subst hj
    simp [up_ap]
  | succ j =>
    simp at hj
    have hlt : j < L.length := (List.getElem?_eq_some_iff.mp hj).1
    have hne := ha l (List.mem_of_getElem? hj)
    show _ = nI (if l = a then 0 else f l)
    rw [if_neg hne, ← h1 j l hj]
    simp only [List.length_cons, up_ap]
    rw [if_neg (by omega)]
    congr 1
    omega
theorem lpR_inc {I : HI} {f : Nat → Nat} {L : List Nat} {l : Nat} (ha : ∀ x ∈ L, ¬ x = l) (h : lpR I o f (l :: L)) : lpR (up I (o + 26) L.length (nI (f l + 1))) o (fun j => if j = l then f l + 1 else f j) (l :: L) := by
  obtain ⟨h0, h1⟩ := h
  refine ⟨by rw [up_na (by omega)]; exact h0, fun j x hj => ?_⟩
  cases j with
  | zero =>
    simp at hj
    subst hj
    simp [up_ap]
  | succ j =>
    simp at hj
    have hlt : j < L.length := (List.getElem?_eq_some_iff.mp hj).1
    have hne := ha x (List.mem_of_getElem? hj)
    have := h1 (j + 1) x (by simpa using hj)
    show _ = nI (if x = l then f l + 1 else f x)
    rw [if_neg hne, ← this]
    simp only [List.length_cons, up_ap]
    rw [if_neg (by omega)]
theorem lpR_pop {I : HI} {f : Nat → Nat} {L : List Nat} {l : Nat} (h : lpR I o f (l :: L)) : lpR (up I o 8 (nI L.length)) o f L := by
  obtain ⟨h0, h1⟩ := h
  refine ⟨by simp [up_ap], fun j x hj => ?_⟩
  have hlt : j < L.length := (List.getElem?_eq_some_iff.mp hj).1
  have := h1 (j + 1) x (by simpa using hj)
  rw [up_ne _ _ _ _ (show ¬ o + 26 = o by omega), ← this]
  simp only [List.length_cons]
  congr 1
  omega
end M5
