/-! Constructors: what stands while they work, and the rules of new cells. -/
def frs (I : HI) (J : HJ) (R : HR) (n : Nat) : Prop := R 1000 0 = some n ∧ am_g R = 0 ∧ ∀ c, n ≤ c → c < 900 → (∀ j, I c j = 0) ∧ (∀ j, J c j = 0) ∧ ∀ j, R c j = none
def hld (R : HR) (T : List (Nat × Nat × Nat)) : Prop := ∀ q ∈ T, R q.1 q.2.1 = some q.2.2
/-- n0: cells at the entry, n: now; cells below o are as at the entry; T: what was put -/
def sz (I : HI) (J : HJ) (R0 R : HR) (n0 n o : Nat) (T : List (Nat × Nat × Nat)) : Prop := (R0 1000 0 = some n0 ∧ am_g R0 = 0) ∧ frs I J R n ∧ (∀ a j, a < o → R a j = R0 a j) ∧ hld R T
theorem sz_0 {I : HI} {J : HJ} {R : HR} {n : Nat} (o : Nat) (h : frs I J R n) : sz I J R R n n o [] := ⟨⟨h.1, h.2.1⟩, h, fun _ _ _ => rfl, fun q hq => absurd hq List.not_mem_nil⟩
theorem sz_get {I : HI} {J : HJ} {R0 R : HR} {n0 n o : Nat} {T : List (Nat × Nat × Nat)} (h : sz I J R0 R n0 n o T) {a k v : Nat} (hm : T.contains (a, k, v) = true) : R a k = some v := h.2.2.2 (a, k, v) (by simpa using hm)
theorem sz_is {I : HI} {J : HJ} {R0 R : HR} {n0 n o : Nat} {T : List (Nat × Nat × Nat)} (h : sz I J R0 R n0 n o T) {a k : Nat} (hm : (decide (a < n) && decide ((am_T a).1 = k)) = true) : am_is R a k := by
  simp only [Bool.and_eq_true, decide_eq_true_eq] at hm
  exact ⟨by simp only [am_n, h.2.1.1, Option.getD_some]; exact hm.1, hm.2⟩
theorem sz_c {I : HI} {J : HJ} {R0 R : HR} {n0 n o : Nat} {T : List (Nat × Nat × Nat)} (h : sz I J R0 R n0 n o T) : am_g R = 0 ∧ am_g R0 = 0 ∧ am_cc R = n ∧ am_cc R0 = n0 ∧ am_sc R = am_SL n ∧ am_sc R0 = am_SL n0 := by
  have h1 : am_n R = n := by simp only [am_n, h.2.1.1, Option.getD_some]
  have h2 : am_n R0 = n0 := by simp only [am_n, h.1.1, Option.getD_some]
  refine ⟨h.2.1.2.1, h.1.2, ?_, ?_, ?_, ?_⟩
  · rw [am_cc, h1, h.2.1.2.1]; omega
  · rw [am_cc, h2, h.1.2]; omega
  · rw [am_sc, h1, h.2.1.2.1]; omega
  · rw [am_sc, h2, h.1.2]; omega
theorem g_up {R : HR} {a k : Nat} {v : Option Nat} (h : ¬ a = 1001) : am_g (up R a k v) = am_g R := by
  simp only [am_g]
  rw [up_na (fun e => h e.symm)]
theorem sz_new {I : HI} {J : HJ} {R0 R : HR} {n0 n o : Nat} {T : List (Nat × Nat × Nat)} (h : sz I J R0 R n0 n o T) (hn : n < 899) (ho : o ≤ 900) (hT : T.all (fun q => decide (q.1 < 900)) = true) : sz I J R0 (up R 1000 0 (some (n + 1))) n0 (n + 1) o T := by
  refine ⟨h.1, ⟨up_s, by rw [g_up (by omega)]; exact h.2.1.2.1, fun c h1 h2 => ?_⟩, fun a j ha => ?_, fun q hq => ?_⟩
  · obtain ⟨e1, e2, e3⟩ := h.2.1.2.2 c (by omega) h2
    exact ⟨e1, e2, fun j => by rw [up_na (by omega)]; exact e3 j⟩
  · rw [up_na (by omega)]
    exact h.2.2.1 a j ha
  · have h1 := List.all_eq_true.mp hT q hq
    rw [decide_eq_true_eq] at h1
    rw [up_na (by omega)]
    exact h.2.2.2 q hq
theorem sz_put {I : HI} {J : HJ} {R0 R : HR} {n0 n o : Nat} {T : List (Nat × Nat × Nat)} (h : sz I J R0 R n0 n o T) {a k v : Nat} (hc : (decide (a < n) && decide (n < 900) && decide (o ≤ a) && T.all (fun q => !(decide (q.1 = a) && decide (q.2.1 = k)))) = true) : sz I J R0 (up R a k (some v)) n0 n o ((a, k, v) :: T) := by
  simp only [Bool.and_eq_true, decide_eq_true_eq] at hc
  obtain ⟨⟨⟨h1, h2⟩, h3⟩, h4⟩ := hc
  refine ⟨h.1, ⟨by rw [up_na (by omega)]; exact h.2.1.1, by rw [g_up (by omega)]; exact h.2.1.2.1, fun c h5 h6 => ?_⟩, fun b j hb => ?_, fun q hq => ?_⟩
  · obtain ⟨e1, e2, e3⟩ := h.2.1.2.2 c h5 h6
    exact ⟨e1, e2, fun j => by rw [up_na (by omega)]; exact e3 j⟩
  · rw [up_na (by omega)]
    exact h.2.2.1 b j hb
  · rcases List.mem_cons.mp hq with rfl | hq
    · exact up_s
    · have h7 := List.all_eq_true.mp h4 q hq
      simp only [Bool.not_eq_true', Bool.and_eq_false_iff, decide_eq_false_iff_not] at h7
      simp only [up]
      rw [if_neg (by omega)]
      exact h.2.2.2 q hq
theorem sz_I {I : HI} {J : HJ} {R0 R : HR} {n0 n o : Nat} {T : List (Nat × Nat × Nat)} (h : sz I J R0 R n0 n o T) {a k : Nat} {x : Int32} (ha : a < n) : sz (up I a k x) J R0 R n0 n o T := by
  refine ⟨h.1, ⟨h.2.1.1, h.2.1.2.1, fun c h5 h6 => ?_⟩, h.2.2.1, h.2.2.2⟩
  obtain ⟨e1, e2, e3⟩ := h.2.1.2.2 c h5 h6
  exact ⟨fun j => by rw [up_na (by omega)]; exact e1 j, e2, e3⟩
theorem sz_tr {I : HI} {J : HJ} {R0 R R' : HR} {n0 n o n1 o1 n2 : Nat} {T T' : List (Nat × Nat × Nat)} (h : sz I J R0 R n0 n o T) (h' : sz I J R R' n1 n2 o1 T') (hc : (decide (o ≤ o1) && T.all (fun q => decide (q.1 < o1))) = true) : sz I J R0 R' n0 n2 o (T' ++ T) := by
  simp only [Bool.and_eq_true, decide_eq_true_eq] at hc
  refine ⟨h.1, h'.2.1, fun a j ha => by rw [h'.2.2.1 a j (by omega)]; exact h.2.2.1 a j ha, fun q hq => ?_⟩
  rcases List.mem_append.mp hq with hq | hq
  · exact h'.2.2.2 q hq
  · have h1 := List.all_eq_true.mp hc.2 q hq
    rw [decide_eq_true_eq] at h1
    rw [h'.2.2.1 _ _ h1]
    exact h.2.2.2 q hq
section KZ
variable {M : MI} {C : CT} {X : Option (Nat × (Nat → Int32))} {R0 : HR} {Q : PQ} {K : KT} {pc : Nat} {L : LV} {S As St : List Value} {I : HI} {J : HJ} {R : HR} {n0 n o : Nat} {T : List (Nat × Nat × Nat)}
theorem k_zob (hK : am_R M C X R0 Q K) {idx a : Nat} (hd : decode M.2.1 pc = .ok (.invokespecial idx, 3)) (h1 : am_in (.methodLink M.2.2.2.2.1 idx Lib.objectInit)) (hc : am_cat S ≤ 8) (k : K (pc + 3) L S I J R) : K pc L (.ref a :: S) I J R :=
  hK.2.2.2.2.2.2.2.2.2.2.2.2.2.2.1.2.2.2 _ _ _ _ _ _ _ _ hd h1 (am_ac in_t1 28 rfl rfl) (am_ac in_t1 29 rfl rfl) hc k
theorem k_znew (hK : am_R M C X R0 Q K) (hz : sz I J R0 R n0 n o T) {idx k : Nat} {q : vw_C} (hd : decode M.2.1 pc = .ok (.new idx, 3)) (hq : am_cls[k]? = some q) (h1 : am_in (.classLink M.2.2.2.2.1 idx q.1)) (h2 : am_in (.instantiable q.1 q.2.2)) (h3 : am_in (.initialized q.1)) (hc : (decide ((am_T n).1 = k) && decide (n < 899) && decide (o ≤ 900) && T.all (fun q => decide (q.1 < 900)) && decide (n + 1 ≤ n0 + M.2.2.2.2.2.1) && decide (am_SL n + q.2.2 ≤ am_SL n0 + M.2.2.2.2.2.2)) = true) (kk : ∀ R', sz I J R0 R' n0 (n + 1) o T → K (pc + 3) L (.ref n :: S) I J R') : K pc L S I J R := by
  simp only [Bool.and_eq_true, decide_eq_true_eq] at hc
  obtain ⟨⟨⟨⟨⟨e1, e2⟩, e3⟩, e4⟩, e5⟩, e6⟩ := hc
  obtain ⟨c1, c2, c3, c4, c5, c6⟩ := sz_c hz
  obtain ⟨f1, f2, f3⟩ := hz.2.1.2.2 n (by omega) (by omega)
  exact hK.2.2.2.2.2.2.2.2.2.2.2.2.2.2.2.2.1.1 _ _ _ _ _ _ _ _ _ _ hd hq h1 h2 h3 hz.2.1.1 c1 e1 f1 f3 (by omega) (by rw [c3, c4]; exact e5) (by rw [c5, c6]; exact e6) (kk _ (sz_new hz e2 e3 e4))
theorem k_zna (hK : am_R M C X R0 Q K) (hz : sz I J R0 R n0 n o T) {t : ArrayType} {c : Int32} (hd : decode M.2.1 pc = .ok (.newarray t, 2)) (h1 : am_in (.arrayClass (newarray.typeOf t))) (hc : (decide (am_T n = (am_ak t, c.toNatClampNeg)) && decide (am_ak t < 20) && decide (¬ c < 0) && decide (c.toNatClampNeg ≤ 10000) && decide (n < 899) && decide (o ≤ 900) && T.all (fun q => decide (q.1 < 900)) && decide (n + 1 ≤ n0 + M.2.2.2.2.2.1) && decide (am_SL n + c.toNatClampNeg ≤ am_SL n0 + M.2.2.2.2.2.2)) = true) (kk : ∀ R', sz I J R0 R' n0 (n + 1) o T → K (pc + 2) L (.ref n :: S) I J R') : K pc L (.int c :: S) I J R := by
  simp only [Bool.and_eq_true, decide_eq_true_eq] at hc
  obtain ⟨⟨⟨⟨⟨⟨⟨⟨a1, a2⟩, a3⟩, a4⟩, e2⟩, e3⟩, e4⟩, e5⟩, e6⟩ := hc
  obtain ⟨c1, c2, c3, c4, c5, c6⟩ := sz_c hz
  obtain ⟨f1, f2, f3⟩ := hz.2.1.2.2 n (by omega) (by omega)
  exact hK.2.2.2.2.2.2.2.2.2.2.2.2.2.2.2.2.1.2 _ _ _ _ _ _ _ _ _ _ hd h1 hz.2.1.1 c1 a1 a2 a3 rfl a4 f1 f2 (by omega) (by rw [c3, c4]; exact e5) (by rw [c5, c6]; exact e6) (kk _ (sz_new hz e2 e3 e4))
theorem k_zpR (hK : am_R M C X R0 Q K) (hz : sz I J R0 R n0 n o T) {idx k j a b : Nat} (hd : decode M.2.1 pc = .ok (.putfield idx, 3)) (hl : am_lkF M.2.2.2.2.1 idx k j) (h1 : am_isR (am_ty k j) = true) (h2 : am_fin k j = false ∨ (M.1.name = "<init>" ∧ am_cls[k]?.map (fun q => (q.2.1 j).1) = some M.2.2.2.2.1)) (h3 : (am_T a).1 = k) (hc : (decide (a < n) && decide (n < 900) && decide (o ≤ a) && T.all (fun q => !(decide (q.1 = a) && decide (q.2.1 = j)))) = true) (kk : ∀ R', sz I J R0 R' n0 n o ((a, j, b) :: T) → K (pc + 3) L S I J R') : K pc L (.ref b :: .ref a :: S) I J R :=
  k_pR hK hd hl h1 h2 (sz_is hz (by simp only [Bool.and_eq_true, decide_eq_true_eq] at hc ⊢; exact ⟨hc.1.1.1, h3⟩)) (kk _ (sz_put hz hc))
theorem sz_fit (hz : sz I J R0 R n0 n o T) {N : MI} (hc : (decide (n + N.2.2.2.2.2.1 ≤ n0 + M.2.2.2.2.2.1) && decide (am_SL n + N.2.2.2.2.2.2 ≤ am_SL n0 + M.2.2.2.2.2.2)) = true) : am_fit M N R0 R := by
  simp only [Bool.and_eq_true, decide_eq_true_eq] at hc
  obtain ⟨c1, c2, c3, c4, c5, c6⟩ := sz_c hz
  exact ⟨by rw [c3, c4]; exact hc.1, by rw [c5, c6]; exact hc.2⟩
theorem sz_done (hz : sz I J R0 R n0 n o T) (hc : (decide (n = n0 + M.2.2.2.2.2.1) && decide (am_SL n = am_SL n0 + M.2.2.2.2.2.2)) = true) : am_done M R0 R := by
  simp only [Bool.and_eq_true, decide_eq_true_eq] at hc
  obtain ⟨c1, c2, c3, c4, c5, c6⟩ := sz_c hz
  exact ⟨by rw [c1, c2], by rw [c3, c4]; exact hc.1, by rw [c5, c6]; exact hc.2⟩
theorem k_zci (hK : am_R M C X R0 Q K) {idx a na : Nat} {N : MI} (hd : decode M.2.1 pc = .ok (.invokespecial idx, 3)) (hl : am_lkI M.2.2.2.2.1 idx N na) (hn : As.length = na) (hc : am_cat S ≤ 8) (hf : am_fit M N R0 R) (hst : St = As.reverse ++ .ref a :: S) (h : C N (.ref a :: As) I J R (fun r I' J' R' => K (pc + 3) L (r.toList ++ S) I' J' R')) : K pc L St I J R :=
  hK.2.2.2.2.2.2.2.2.2.2.2.2.2.2.1.2.2.1 _ _ _ _ _ _ _ _ _ _ _ _ hd hl hn hc hf hst h
end KZ
