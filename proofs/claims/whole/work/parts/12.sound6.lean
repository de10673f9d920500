section AMN
variable {p : Program} {l : Launch} {e : Env} {Rm : Room} {s : State} {m : MethodId} {args : Array Value} {below : List Frame} {meth : Method} {c : Code} {Qf : Nat → Nat → State → Prop} {base b : Nat} {cy : Nat → ClassId} {D : va_G} {M : MI} {R0 : HR} {d : Nat}
theorem am_native : nativeFrameWords "java/lang/System" "arraycopy" 5 ≤ 40 := by decide +kernel
theorem s_copy (X : am_Cx d M p Rm s m args meth c base cy D R0) : ru_copy M (am_K0 p l e Rm s m args below meth c Qf base b cy D M R0) := by
  obtain ⟨hx, hb, hml, hown, hts, hNW, hK, ⟨hfr, hlo, hce, hsl⟩, ⟨hbase, hb0⟩, hin⟩ := X
  intro pc L S I J R idx a b' sp dp n hd l1 l2 l3 l4 ha hb' hcat h5 h6 h7 h8 h9 kk H locs cells slots ls h1 h2 h3 h4
  have hw := am_native
  refine va_copyi (ty := .int) hx hb (hml.trans h3.1.symm) hown (hts _ l1) (hts _ l2) (hts _ l3) (hts _ l4) hK h1.1 (am_ws_D ..) h2 a b' 1 1 (am_hei h1 ha (by decide)) (am_hei h1 hb' (by decide)) rfl rfl rfl h5 h6 h7 h8 h9 (fun _ _ => rfl) (by omega) (by rw [am_catmap]; omega) hd (fun H1 locs1 hP hD hS => ?_)
  refine kk H1 locs1 cells slots ls (am_put rfl h1.2 hb'.1 (fun c hc => ?_) (fun _ _ => rfl) (fun _ _ _ => rfl) ?_ hP) hS h3 h4
  · funext j
    simp [am_cp, hc]
  · simp only [am_ent, hb'.2]
    rw [if_neg (by omega), if_neg (by omega)]
    congr 4
    funext j
    simp [am_cp]
theorem am_dflt : (List.range 12).all (fun k => (List.range (am_fn k)).all (fun j => am_isR (am_ty k j) || decide (defaultValue (am_ty k j) = .int 0))) = true := by decide +kernel
theorem am_dfl {k j : Nat} (hk : k < 12) (hj : j < am_fn k) : defaultValue (am_ty k j) = if am_isR (am_ty k j) = true then Value.null else .int 0 := by
  cases h : am_isR (am_ty k j) with
  | true =>
    cases ht : am_ty k j with
    | object _ => rfl
    | array _ => rfl
    | _ => rw [ht] at h; cases h
  | false =>
    have h1 := List.all_eq_true.mp (List.all_eq_true.mp am_dflt k (List.mem_range.mpr hk)) j (List.mem_range.mpr hj)
    rw [h] at h1
    simpa using h1
theorem am_n_new {R : HR} {n : Nat} : am_n (up R 1000 0 (some (n + 1))) = n + 1 ∧ am_g (up R 1000 0 (some (n + 1))) = am_g R := ⟨rfl, rfl⟩
theorem am_SL_succ {n : Nat} {q : Nat × Nat} (h : am_Tl[n]? = some q) : am_SL (n + 1) = am_SL n + am_size q := by
  simp only [am_SL, List.take_add_one, h, Option.toList_some, List.map_append, List.map_cons, List.map_nil, List.sum_append, List.sum_cons, List.sum_nil, Nat.add_zero]
theorem am_Tl_of {n k len : Nat} (h : am_T n = (k, len)) (hk : k < 99) : am_Tl[n]? = some (k, len) := by
  simp only [am_T] at h
  cases hq : am_Tl[n]? with
  | none => rw [hq] at h; simp only [Option.getD_none, Prod.mk.injEq] at h; omega
  | some q => rw [hq] at h; simp only [Option.getD_some] at h; rw [h]
theorem am_ct_new {R : HR} {n k len sz cells slots : Nat} (hn : R 1000 0 = some n) (hT : am_T n = (k, len)) (hk : k < 99) (hsz : am_size (k, len) = sz) (h : am_ct R0 R cells slots) : am_ct R0 (up R 1000 0 (some (n + 1))) (cells + 1) (slots + sz) := by
  obtain ⟨h1, h2, h3⟩ := h
  have hn' : am_n R = n := by simp [am_n, hn]
  have hs := am_SL_succ (am_Tl_of hT hk)
  simp only [am_ct, am_cc, am_sc, am_n_new.1, am_n_new.2]
  simp only [am_cc, am_sc, hn'] at h1 h2
  refine ⟨by omega, by omega, by omega⟩
theorem am_push {I : HI} {J : HJ} {R : HR} {H H1 : Heap} {n : Nat} (h : am_Wd base b cy D I J R H) (hn : R 1000 0 = some n) (hlt : n < 900) (hsz : H.size = base + n) (ho : ∀ q, q < H.size → H1[q]? = H[q]?) (hat : va_at D am_cls (base + n, am_ent base b cy I J R n) H1) : am_Wd base b cy D I J (up R 1000 0 (some (n + 1))) H1 := by
  have hn' : am_n R = n := by simp [am_n, hn]
  refine ⟨?_, by rw [am_n_new.1]; omega⟩
  rw [am_n_new.1]
  intro k q hq
  have hk : k < n + 1 := by
    have := (List.getElem?_eq_some_iff.mp hq).1
    simpa [am_ws] using this
  rw [am_ws_get hk, am_ent_congr (I := I) (J := J) (R := R) rfl rfl (up_ne R 1000 0 _ (by omega))] at hq
  cases hq
  by_cases hkn : k < n
  · exact (h.1 k _ (am_ws_get (by rw [hn']; exact hkn))).kept (ho _ (by show base + k < H.size; omega))
  · have : k = n := by omega
    subst this
    exact hat
theorem s_new (X : am_Cx d M p Rm s m args meth c base cy D R0) : ru_new M R0 (am_K0 p l e Rm s m args below meth c Qf base b cy D M R0) := by
  obtain ⟨hx, hb, hml, hown, hts, hNW, hK, ⟨hfr, hlo, hce, hsl⟩, ⟨hbase, hb0⟩, hin⟩ := X
  refine ⟨?_, ?_⟩
  · intro pc L S I J R idx k n q hd hq l1 l2 l3 hn hg hT hI hR hlt hc1 hc2 kk H locs cells slots ls h1 h2 h3 h4
    refine am_szW fun hle => ?_
    have hsz := am_size_eq h1 h2 hbase hb0 h4 hle hg
    have hn' : am_n R = n := by simp [am_n, hn]
    rw [hn'] at hsz
    obtain ⟨hfn, hk⟩ := am_cls_fn hq
    have hKn := hK.1 k _ hq
    obtain ⟨d1, d2, d3⟩ := h4
    refine W.newcK hx hb hown (hts _ l1) (hts _ l2) (hts _ l3) rfl hd (by omega) (by omega) hKn.2.1 hsz fun H1 kC hkC e1 z1 o1 => ?_
    have hat : va_at D am_cls (base + n, am_ent base b cy I J R n) H1 := by
      simp only [am_ent, hT, hk, if_true]
      refine ⟨_, hq, (u_born (am_ty k) hts (am_u_in k q hq) hKn hkC e1 (am_ty_ok k q hq)).to fun j hj => ?_⟩
      rw [am_dfl hk (by rw [hfn]; exact hj)]
      simp only [vp_V, List.getD_eq_getElem?_getD, am_fs_get (show j < am_fn k by rw [hfn]; exact hj), hR, hI]
      split <;> rfl
    have k := kk H1 locs (cells + 1) (slots + q.2.2) ls (am_push h1 hn hlt hsz (by rw [hsz]; exact o1) hat) ⟨by rw [z1]; have := h2.1; omega, fun x g1 g2 => (o1 x (by have := h2.1; omega)).trans (h2.2.1 x g1 g2), h2.2.2⟩ h3 (am_ct_new (k := k) (len := (am_T n).2) hn (by rw [← hT]) (by omega) (by simp [am_size, hk, hfn]) ⟨d1, d2, d3⟩)
    simp only [List.map_cons, am_cv, am_ad_lt (show n < 999 by omega)] at k
    exact k
  · intro pc L S I J R n len t cn hd l1 hn hg hT hak hneg hlen hmax hI hJ hlt hc1 hc2 kk H locs cells slots ls h1 h2 h3 h4
    refine am_szW fun hle => ?_
    have hsz := am_size_eq h1 h2 hbase hb0 h4 hle hg
    have hn' : am_n R = n := by simp [am_n, hn]
    rw [hn'] at hsz
    obtain ⟨d1, d2, d3⟩ := h4
    have hcb : componentBytes (newarray.typeOf t) ≤ 8 := by cases t <;> decide
    have hcb2 : len * componentBytes (newarray.typeOf t) ≤ 10000 * 8 := Nat.mul_le_mul hmax hcb
    refine va_newaK hx hb (hts _ l1) rfl hd rfl hneg hlen (by omega) (by omega) (by omega) hsz fun H1 cA e1 z1 o1 hAr hNm => ?_
    have hsize : am_size (am_ak t, len) = len := by
      have : ¬ am_ak t < 12 := by cases t <;> simp [am_ak]
      simp [am_size, this]
    have hat : va_at D am_cls (base + n, am_ent base b cy I J R n) H1 := by
      have hcA : ∀ (i : Nat) (ty : FieldType), (am_tys cy)[i]? = some (cy (am_ak t), ty) → newarray.typeOf t = ty → refKind ty = false → cA = cy (am_ak t) := by
        intro i ty hi hty hrk
        have h := (hK.2 i _ hi).2
        rw [hty] at hNm
        cases ty <;> first | (exact Option.some.inj (hNm.symm.trans h)) | (cases hrk)
      cases t with
      | byte =>
        have := hcA 0 .byte rfl rfl rfl
        subst this
        simp only [am_ent, hT, am_ak]
        show H1[base + n]? = some (vp_cell _ _)
        rw [e1]
        simp [vp_cell, hI, newarray.typeOf, defaultValue, am_ak]
      | int =>
        have := hcA 1 .int rfl rfl rfl
        subst this
        simp only [am_ent, hT, am_ak]
        show H1[base + n]? = some (vp_cell _ _)
        rw [e1]
        simp [vp_cell, hI, newarray.typeOf, defaultValue, am_ak]
      | long =>
        have := hcA 2 .long rfl rfl rfl
        subst this
        simp only [am_ent, hT, am_ak]
        show H1[base + n]? = some (vp_cell _ _)
        rw [e1]
        simp [vp_cell, hJ, newarray.typeOf, defaultValue, am_ak]
      | boolean =>
        have := hcA 3 .boolean rfl rfl rfl
        subst this
        simp only [am_ent, hT, am_ak]
        show H1[base + n]? = some (vp_cell _ _)
        rw [e1]
        simp [vp_cell, hI, newarray.typeOf, defaultValue, am_ak]
      | _ => simp [am_ak] at hak
    have k := kk H1 locs (cells + 1) (slots + len) ls (am_push h1 hn hlt hsz (by rw [hsz]; exact o1) hat) ⟨by rw [z1]; have := h2.1; omega, fun x g1 g2 => (o1 x (by have := h2.1; omega)).trans (h2.2.1 x g1 g2), h2.2.2⟩ h3 (am_ct_new hn hT (by omega) hsize ⟨d1, d2, d3⟩)
    simp only [List.map_cons, am_cv, am_ad_lt (show n < 999 by omega)] at k
    exact k
theorem s_math (X : am_Cx d M p Rm s m args meth c base cy D R0) : ru_math M R0 (am_K0 p l e Rm s m args below meth c Qf base b cy D M R0) := by
  obtain ⟨hx, hb, hml, hown, hts, hNW, hK, ⟨hfr, hlo, hce, hsl⟩, ⟨hbase, hb0⟩, hin⟩ := X
  refine ⟨?_, ?_⟩ <;> intro pc L S I J R idx x y hd l1 l2 l3 l4 hcat f1 f2 kk H locs cells slots ls h1 h2 h3 h4
  · obtain ⟨c1, c2, c3⟩ := id h4
    exact va_mmax hx hb (hml.trans h3.1.symm) hown (hts _ l1) (hts _ l2) (hts _ l3) (hts _ l4) (by omega) (by rw [am_catmap]; omega) (by omega) (by omega) hd (kk H locs cells slots ls h1 h2 h3 h4)
  · obtain ⟨c1, c2, c3⟩ := id h4
    exact va_mmin hx hb (hml.trans h3.1.symm) hown (hts _ l1) (hts _ l2) (hts _ l3) (hts _ l4) (by omega) (by rw [am_catmap]; omega) (by omega) (by omega) hd (kk H locs cells slots ls h1 h2 h3 h4)
/-- the end of a method -/
theorem s_ret {Q : PQ} (hr : meth.sig.returnType = M.2.2.2.1) (hlocks : meth.locks = false) (X : am_Cx d M p Rm s m args meth c base cy D R0) : ru_ret M R0 Q (am_K0 p l e Rm s m args below meth c (fun mc ms => MQ below (am_QC base b cy D Q R0 M) args s mc ms (fun q => base ≤ q)) base b cy D M R0) := by
  obtain ⟨hx, hb, hml, hown, hts, hNW, hK, -⟩ := X
  have cnt : ∀ {R : HR} {cells slots : Nat}, am_done M R0 R → am_ct R0 R cells slots → cells = M.2.2.2.2.2.1 ∧ slots = M.2.2.2.2.2.2 := by
    intro R cells slots ⟨a0, a1, a2⟩ ⟨c1, c2, c3⟩
    omega
  refine ⟨?_, ?_, ?_⟩
  · intro pc L I J R x ty hd hty hn hdone hQ H locs cells slots ls h1 h2 h3 h4
    obtain ⟨e1, e2⟩ := cnt hdone h4
    rw [← e1, ← e2]
    exact W.zret hx hb (hr.trans hty) hn (fun t ht _ => ⟨⟨_, I, J, R, rfl, Or.inr (Or.inl ⟨x, rfl⟩), hQ, hdone.2.1, hdone.2.2, Nat.le_of_eq hdone.1.symm, by rw [ht]; exact h1⟩, h2.F ht⟩) h2.2.2 hd hlocks
  · intro pc L I J R x hd hty hdone hQ H locs cells slots ls h1 h2 h3 h4
    obtain ⟨e1, e2⟩ := cnt hdone h4
    rw [← e1, ← e2]
    exact W.lret hx hb (hr.trans hty) (fun t ht _ => ⟨⟨_, I, J, R, rfl, Or.inr (Or.inr ⟨x, rfl⟩), hQ, hdone.2.1, hdone.2.2, Nat.le_of_eq hdone.1.symm, by rw [ht]; exact h1⟩, h2.F ht⟩) h2.2.2 hd hlocks
  · intro pc L I J R hd hty hdone hQ H locs cells slots ls h1 h2 h3 h4
    obtain ⟨e1, e2⟩ := cnt hdone h4
    rw [← e1, ← e2]
    exact W.vret hx hb (hr.trans hty) (fun t ht _ => ⟨⟨_, I, J, R, rfl, Or.inl rfl, hQ, hdone.2.1, hdone.2.2, Nat.le_of_eq hdone.1.symm, by rw [ht]; exact h1⟩, h2.F ht⟩) h2.2.2 hd hlocks
end AMN
