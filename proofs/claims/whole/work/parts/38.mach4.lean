/-! perform: one instruction -/
theorem tpR_ne {I : HI} {b c k n : Nat} {x : Int32} {T : SP} (h : c < b ∨ b + 9 < c) : tpR (up I c k x) b T n ↔ tpR I b T n := by
  simp only [tpR, rN_ne (show ¬ b + 1 = c by omega), rN_ne (show ¬ b + 2 = c by omega), rN_ne (show ¬ b + 3 = c by omega), rN_ne (show ¬ b + 4 = c by omega), rN_ne (show ¬ b + 5 = c by omega), rS_ne (show ¬ b + 6 = c by omega), rS_ne (show ¬ b + 7 = c by omega), rN_ne (show ¬ b + 9 = c by omega), up_ne I c k x (show ¬ b = c by omega), up_ne I c k x (show ¬ b + 8 = c by omega)]
theorem tsR_ne {I : HI} {b c k n so : Nat} {x : Int32} {f : Nat → Nat} (h : c < b ∨ b + 1 < c) : tsR (up I c k x) b f n so ↔ tsR I b f n so := by
  simp only [tsR, up_ne I c k x (show ¬ b = c by omega), up_ne I c k x (show ¬ b + 1 = c by omega)]
theorem lpR_ne {I : HI} {o c k : Nat} {x : Int32} {f : Nat → Nat} {L : List Nat} (h : ¬ c = o) (h2 : ¬ c = o + 26) : lpR (up I c k x) o f L ↔ lpR I o f L := by
  simp only [lpR, up_ne I c k x (show ¬ o = c by omega), up_ne I c k x (show ¬ o + 26 = c by omega)]
theorem lpR_n8 {I : HI} {o k : Nat} {x : Int32} {f : Nat → Nat} {L : List Nat} (h : ¬ k = 8) : lpR (up I o k x) o f L ↔ lpR I o f L := by
  have e : up I o k x o 8 = I o 8 := up_nk (fun q => h q.symm)
  simp only [lpR, e, up_ne I o k x (show ¬ o + 26 = o by omega)]
/-- the machine but for where it is -/
def mB (I : HI) (o : Nat) (G T : SP) (L : List Nat) : Prop :=
  (I o 10 = nI (T 0 1) ∧ I o 11 = nI (T 0 7)) ∧ slR I (o + 1) (T 3) (T 4) (G 3 3) ∧ slR I (o + 4) (T 5) (T 6) (G 3 5) ∧ slR I (o + 7) (T 1) (T 2) (T 0 2) ∧ slR I (o + 10) (T 7) (T 8) (T 0 3) ∧ tpR I (o + 13) T (T 0 4) ∧ tsR I (o + 24) (T 16) (T 0 5) (T 0 6) ∧ lpR I o (T 17) L
theorem mR_of {I : HI} {o nx : Nat} {G T : SP} {N : Nat → List Nat} (h : mB I o G T (N nx)) : mR (up I o 9 (nI nx)) o G N (up T 0 0 nx) := by
  obtain ⟨⟨m2, m3⟩, v1, v2, v3, v4, tp, ts, lp⟩ := h
  simp only [mR, tpR, upc_ne (show ¬ 1 = 0 by decide), upc_ne (show ¬ 2 = 0 by decide), upc_ne (show ¬ 3 = 0 by decide), upc_ne (show ¬ 4 = 0 by decide), upc_ne (show ¬ 5 = 0 by decide), upc_ne (show ¬ 6 = 0 by decide), upc_ne (show ¬ 7 = 0 by decide), upc_ne (show ¬ 8 = 0 by decide), upc_ne (show ¬ 9 = 0 by decide), upc_ne (show ¬ 10 = 0 by decide), upc_ne (show ¬ 11 = 0 by decide), upc_ne (show ¬ 12 = 0 by decide), upc_ne (show ¬ 13 = 0 by decide), upc_ne (show ¬ 14 = 0 by decide), upc_ne (show ¬ 15 = 0 by decide), upc_ne (show ¬ 16 = 0 by decide), upc_ne (show ¬ 17 = 0 by decide), upc_ne (show ¬ 18 = 0 by decide)]
  have z0 : up T 0 0 nx 0 0 = nx := up_s
  have z1 : up T 0 0 nx 0 1 = T 0 1 := up_nk (by decide)
  have z2 : up T 0 0 nx 0 2 = T 0 2 := up_nk (by decide)
  have z3 : up T 0 0 nx 0 3 = T 0 3 := up_nk (by decide)
  have z4 : up T 0 0 nx 0 4 = T 0 4 := up_nk (by decide)
  have z5 : up T 0 0 nx 0 5 = T 0 5 := up_nk (by decide)
  have z6 : up T 0 0 nx 0 6 = T 0 6 := up_nk (by decide)
  have z7 : up T 0 0 nx 0 7 = T 0 7 := up_nk (by decide)
  rw [z0, z1, z2, z3, z4, z5, z6, z7]
  refine ⟨⟨up_s, (up_nk (by decide)).trans m2, (up_nk (by decide)).trans m3⟩, (slR_ne (by omega) (by omega) (by omega)).mpr v1, (slR_ne (by omega) (by omega) (by omega)).mpr v2, (slR_ne (by omega) (by omega) (by omega)).mpr v3, (slR_ne (by omega) (by omega) (by omega)).mpr v4, (tpR_ne (T := T) (by omega)).mpr tp, (tsR_ne (by omega)).mpr ts, (lpR_n8 (by decide)).mpr lp⟩
section M4
variable {d : Nat} {I : HI} {J : HJ} {R : HR} {o p : Nat} {G T : SP} {D : Nat → Nat} {N : Nat → List Nat}
theorem t_isSo {Q : Bool → HI → Prop} (hs : Stat R) (ho : isX1 o) (h12 : G 0 (T 0 0) = 12 ∨ G 0 (T 0 0) = 13) (hn : T 0 2 = 2) (h5 : T 0 5 < 1024) (h6 : T 0 6 ≤ T 0 5) (hr : okR G (T 0 4) (T 1) (T 2) (T 0 2)) (hP : ∀ t, t < T 0 5 → T 16 t = 0 ∨ T 16 t = 1) (hS : slR I (o + 7) (T 1) (T 2) (T 0 2)) (hT : tsR I (o + 24) (T 16) (T 0 5) (T 0 6))
    (h : ∀ I', slR I' (o + 7) (T 1) (T 2) 0 → tsR I' (o + 24) (testT G T 16) (T 0 5 + 1) (testT G T 0 6) → (∀ a, ¬ (o + 7 ≤ a ∧ a ≤ o + 9) → ¬ (o + 24 ≤ a ∧ a ≤ o + 25) → I' a = I a) → Q (testV (G 0 (T 0 0)) (T 1 (T 0 2 - 2)) (T 1 (T 0 2 - 1))) I') : Wc fb (d + 2) M_X1_isSo [.ref o, .int (nI (G 0 (T 0 0)))] I J R Q := by
  have hoS := sub_X1_7 ho
  have hoA := sub_X1_24 ho
  refine e_X1_isSo hs ho ?_
  have hv2 := hr (T 0 2 - 2) (by omega)
  have hv1 := hr (T 0 2 - 1) (by omega)
  rw [hS.1, sub2 (by omega), sub1 (by omega)]
  refine t_valueAt hs hoS hS.1 (by omega) (by omega) ?_
  refine t_valueAt hs hoS hS.1 (by omega) (by omega) ?_
  rw [hS.2.1 _ (by omega), hS.2.1 _ (by omega)]
  refine t_sdrop (k := 2) hs hoS hS.1 (by omega) (by omega) ?_
  have hS2 := slR_drop (m := T 0 2 - 2) (by omega) hS
  have hT2 : tsR (up I (o + 7) 2 (nI (T 0 2 - 2))) (o + 24) (T 16) (T 0 5) (T 0 6) := (tsR_ne (by omega)).mpr hT
  have c12 : (nI (G 0 (T 0 0)) = (12 : Int32)) ↔ G 0 (T 0 0) = 12 := nI_eq (by omega) (by decide)
  have e16 : ∀ b : Bool, testV (G 0 (T 0 0)) (T 1 (T 0 2 - 2)) (T 1 (T 0 2 - 1)) = b → testT G T 16 = (fun j => if j = T 0 5 then (if b then 1 else 0) else T 16 j) ∧ testT G T 0 6 = T 0 6 + (if b then 1 else 0) := by
    intro b hb
    simp [testT, upc_ne, upc_eq, up_ap, hb]
  have fin : ∀ b : Bool, testV (G 0 (T 0 0)) (T 1 (T 0 2 - 2)) (T 1 (T 0 2 - 1)) = b → Wc fv (d + 1) M_X0_add [.ref (o + 24), .int (b2i b)] (up I (o + 7) 2 (nI (T 0 2 - 2))) J R (fun _ I8 => Q b I8) := by
    intro b hb
    refine t_aadd hs hoA h5 h6 hP hT2 (fun I' ht hf => ?_)
    obtain ⟨e1, e2⟩ := e16 b hb
    rw [← e1, ← e2] at ht
    rw [← hb]
    refine h I' ?_ ht (fun a a1 a2 => ?_)
    · rw [show (0 : Nat) = T 0 2 - 2 by omega]
      exact slR_cg (hf _ (by omega) (by omega)) (hf _ (by omega) (by omega)) (hf _ (by omega) (by omega)) hS2
    · rw [hf a (by omega) (by omega), up_ne _ _ _ _ (by omega)]
  refine ⟨fun hc => ⟨fun hc2 => ?_, fun hc2 => ?_⟩, fun hc => ?_⟩
  · refine fin false ?_
    have : ¬ G 0 (T 0 0) = 12 := fun q => hc (c12.mpr q)
    have h3 : ¬ T 1 (T 0 2 - 2) = T 1 (T 0 2 - 1) := fun q => hc2 (by rw [q])
    simp [testV, this, h3]
  · refine fin true ?_
    have : ¬ G 0 (T 0 0) = 12 := fun q => hc (c12.mpr q)
    have h3 : T 1 (T 0 2 - 2) = T 1 (T 0 2 - 1) := (nI_eq (by omega) (by omega)).mp hc2
    simp [testV, this, h3]
  · refine t_signed hs hv2.1 (t_signed hs hv1.1 ?_)
    have hle : (sgI (T 1 (T 0 2 - 1)) ≤ sgI (T 1 (T 0 2 - 2))) ↔ sgZ (T 1 (T 0 2 - 1)) ≤ sgZ (T 1 (T 0 2 - 2)) := by
      rw [Int32.le_iff_toInt_le, sgI_toInt hv2.1, sgI_toInt hv1.1]
    refine ⟨fun hc2 => fin false ?_, fun hc2 => fin true ?_⟩
    · have h3 : ¬ sgZ (T 1 (T 0 2 - 2)) < sgZ (T 1 (T 0 2 - 1)) := by have := hle.mp hc2; omega
      simp [testV, c12.mp hc, h3]
    · have h3 : sgZ (T 1 (T 0 2 - 2)) < sgZ (T 1 (T 0 2 - 1)) := by
        have : ¬ sgZ (T 1 (T 0 2 - 1)) ≤ sgZ (T 1 (T 0 2 - 2)) := fun q => hc2 (hle.mpr q)
        omega
      simp [testV, c12.mp hc, h3]
end M4
