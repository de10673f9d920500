section AMU
variable {p : Program} {l : Launch} {e : Env} {Rm : Room} {s : State} {m : MethodId} {args : Array Value} {below : List Frame} {meth : Method} {c : Code} {Qf : Nat → Nat → State → Prop} {base b : Nat} {cy : Nat → ClassId} {D : va_G} {M : MI} {R0 : HR} {d : Nat}
theorem am_ct_up {R R0 : HR} {a j cells slots : Nat} {v : Option Nat} (h : a < 900) (hc : am_ct R0 R cells slots) : am_ct R0 (up R a j v) cells slots := by
  simp only [am_ct, am_cc, am_sc, am_n_up h, am_g_up h] at hc ⊢
  exact hc
theorem s_put (X : am_Cx d M p Rm s m args meth c base cy D R0) : ru_put M (am_K0 p l e Rm s m args below meth c Qf base b cy D M R0) := by
  obtain ⟨hx, hb, -, hown, hts, -, hK, -, -, hin⟩ := X
  refine ⟨?_, ?_⟩
  · intro pc L S I J R idx k j a x hd ⟨q, hq, hj, hl⟩ hr hf hfit ha kk H locs cells slots ls h1 h2 h3 h4
    obtain ⟨hfn, hk⟩ := am_cls_fn hq
    refine va_put (v := .int x) (ref := (q.2.1 j).1) hx hb hts (am_u_in k q hq) (am_ty k) (am_ty_ok k q hq) (am_nm k q hq) hown hK h1.1 (am_ws_D ..) h2 a (am_he h1 ha hk) hq j hj (hts _ hl) (fun _ h => h) ((am_fin_of hq).symm.trans hf) (am_ty_ok k q hq j hj) (narrow_of_fits hfit) hfit (by rw [am_fs_len, hfn]; exact hj) hd (fun H1 locs1 hP hD hS => ?_)
    refine kk H1 locs1 cells slots ls (am_put rfl h1.2 ha.1 (fun c hc => up_ne I a j x hc) (fun _ _ => rfl) (fun _ _ _ => rfl) ?_ hP) hS h3 h4
    simp only [am_ent, ha.2, hk, if_true]
    rw [am_fs_setI hr]
  · intro pc L S I J R idx k j a b' hd ⟨q, hq, hj, hl⟩ hr hf ha kk H locs cells slots ls h1 h2 h3 h4
    obtain ⟨hfn, hk⟩ := am_cls_fn hq
    have ha9 : a < 900 := Nat.lt_of_lt_of_le ha.1 h1.2
    have hfit : fits (am_ty k j) (.ref (am_ad base b b')) = true := by
      cases ht : am_ty k j with
      | object _ => rfl
      | array _ => rfl
      | _ => rw [ht] at hr; cases hr
    have go : ∀ (H1 : Heap) (locs1 : List Loc), va_P D am_cls ((am_ws base b cy I J R (am_n R)).set a (am_ad base b a, .inr (k, (am_fs base b I R k a).set j (.ref (am_ad base b b'))))) H1 → va_D (fun q => base ≤ q) ((am_ws base b cy I J R (am_n R)).set a (am_ad base b a, .inr (k, (am_fs base b I R k a).set j (.ref (am_ad base b b'))))) → va_S (fun q => base ≤ q) s.heap H1 locs1 → W p l e Rm s m args below meth c H1 locs1 cells slots (Qf M.2.2.2.2.2.1 M.2.2.2.2.2.2) (F0 m (pc + 3) ls (S.map (am_cv base b))) := by
      intro H1 locs1 hP hD hS
      refine kk H1 locs1 cells slots ls (am_put (am_n_up ha9) h1.2 ha.1 (fun _ _ => rfl) (fun _ _ => rfl) (fun c hc _ => up_ne R a j (some b') hc) ?_ hP) hS h3 (am_ct_up ha9 h4)
      simp only [am_ent, ha.2, hk, if_true]
      rw [am_fs_setR hr]
    rcases hf with hf | ⟨hin2, hdecl⟩
    · exact va_put (ref := (q.2.1 j).1) hx hb hts (am_u_in k q hq) (am_ty k) (am_ty_ok k q hq) (am_nm k q hq) hown hK h1.1 (am_ws_D ..) h2 a (am_he h1 ha hk) hq j hj (hts _ hl) (fun _ h => h) ((am_fin_of hq).symm.trans hf) (am_ty_ok k q hq j hj) (narrow_of_fits hfit) hfit (by rw [am_fs_len, hfn]; exact hj) hd go
    · rw [hq] at hdecl
      have hdecl : (q.2.1 j).1 = M.2.2.2.2.1 := by simpa using hdecl
      cases hfin : (q.2.1 j).2.2.2 with
      | false => exact va_put (ref := (q.2.1 j).1) hx hb hts (am_u_in k q hq) (am_ty k) (am_ty_ok k q hq) (am_nm k q hq) hown hK h1.1 (am_ws_D ..) h2 a (am_he h1 ha hk) hq j hj (hts _ hl) (fun _ h => h) hfin (am_ty_ok k q hq j hj) (narrow_of_fits hfit) hfit (by rw [am_fs_len, hfn]; exact hj) hd go
      | true => exact va_putF (ref := (q.2.1 j).1) hx hb hts (am_u_in k q hq) (am_ty k) (am_ty_ok k q hq) (am_nm k q hq) hown hK h1.1 (am_ws_D ..) h2 a (am_he h1 ha hk) hq j hj (hts _ hl) (fun _ h => h) hfin (hin hin2) hdecl (am_ty_ok k q hq j hj) (narrow_of_fits hfit) hfit (by rw [am_fs_len, hfn]; exact hj) hd go
theorem am_byte {x : Int32} (h : x.toInt8.toInt32 = x) : vp_nar .byte x = x := by rw [vp_nar_byte, h]
theorem am_bool {x : Int32} (h : x = 0 ∨ x = 1) : vp_nar .boolean x = x := by rcases h with rfl | rfl <;> decide
theorem am_entI {I : HI} {J : HJ} {R : HR} {a k i : Nat} {x : Int32} (ha : am_is R a k) (hk : k = 12 ∨ k = 13 ∨ k = 15) : am_ent base b cy (up I a i x) J R a = .inl (cy k, (am_T a).2, .inl (upd (I a) i x)) := by
  simp only [am_ent, ha.2, up_row]
  rw [if_neg (by omega), if_neg (by omega)]
theorem s_arr {X0 : Option (Nat × (Nat → Int32))} (X : am_Cx d M p Rm s m args meth c base cy D R0) (hX : ∀ n xs, X0 = some (n, xs) → va_X b n xs s s.heap ∧ b < s.heap.size ∧ b < base) : ru_arr M X0 (am_K0 p l e Rm s m args below meth c Qf base b cy D M R0) := by
  obtain ⟨hx, hb, -, hown, hts, -, hK, -⟩ := X
  refine ⟨?_, ?_, ?_, ?_, ?_, ?_, ?_, ?_, ?_⟩
  · intro pc L S I J R a i hd ha hi kk H locs cells slots ls h1 h2 h3 h4
    exact va_iald hx hb hK h1.1 a 1 (am_hei h1 ha (by decide)) rfl hi hd (kk H locs cells slots ls h1 h2 h3 h4)
  · intro pc L S I J R a i hd ha hi kk H locs cells slots ls h1 h2 h3 h4
    rcases ha with ha | ha
    · exact va_bald hx hb hK h1.1 a 0 (am_hei h1 ha (by decide)) rfl hi hd (kk H locs cells slots ls h1 h2 h3 h4)
    · exact va_zald hx hb hK h1.1 a 3 (am_hei h1 ha (by decide)) rfl hi hd (kk H locs cells slots ls h1 h2 h3 h4)
  · intro pc L S I J R a i hd ha hi kk H locs cells slots ls h1 h2 h3 h4
    exact va_lald hx hb hK h1.1 a 2 (am_hej h1 ha) rfl hi hd (kk H locs cells slots ls h1 h2 h3 h4)
  · intro pc L S I J R a i x hd ha hi kk H locs cells slots ls h1 h2 h3 h4
    exact va_iast hx hb hK h1.1 (am_ws_D ..) h2 a 1 (am_hei h1 ha (by decide)) rfl hi hd (fun H1 locs1 hP hD hS => kk H1 locs1 cells slots ls (am_put rfl h1.2 ha.1 (fun c hc => up_ne I a _ x hc) (fun _ _ => rfl) (fun _ _ _ => rfl) (am_entI ha (by decide)) hP) hS h3 h4)
  · intro pc L S I J R a i x hd ha hi kk H locs cells slots ls h1 h2 h3 h4
    rcases ha with ⟨ha, hn⟩ | ⟨ha, hn⟩
    · refine va_bast hx hb hK h1.1 (am_ws_D ..) h2 a 0 (am_hei h1 ha (by decide)) rfl hi hd (fun H1 locs1 hP hD hS => ?_)
      rw [am_byte hn] at hP
      exact kk H1 locs1 cells slots ls (am_put rfl h1.2 ha.1 (fun c hc => up_ne I a _ x hc) (fun _ _ => rfl) (fun _ _ _ => rfl) (am_entI ha (by decide)) hP) hS h3 h4
    · refine va_zast hx hb hK h1.1 (am_ws_D ..) h2 a 3 (am_hei h1 ha (by decide)) rfl hi hd (fun H1 locs1 hP hD hS => ?_)
      rw [am_bool hn] at hP
      exact kk H1 locs1 cells slots ls (am_put rfl h1.2 ha.1 (fun c hc => up_ne I a _ x hc) (fun _ _ => rfl) (fun _ _ _ => rfl) (am_entI ha (by decide)) hP) hS h3 h4
  · intro pc L S I J R a i x hd ha hi kk H locs cells slots ls h1 h2 h3 h4
    refine va_last hx hb hK h1.1 (am_ws_D ..) h2 a 2 (am_hej h1 ha) rfl hi hd (fun H1 locs1 hP hD hS => kk H1 locs1 cells slots ls (am_put rfl h1.2 ha.1 (fun _ _ => rfl) (fun c hc => up_ne J a _ x hc) (fun _ _ _ => rfl) ?_ hP) hS h3 h4)
    simp [am_ent, ha.2, up_rowL]
  · intro pc L S I J R a hd ha kk H locs cells slots ls h1 h2 h3 h4
    rcases ha with ha | ha
    · exact va_alen hx hb hK h1.1 a 0 (am_hei h1 ha (by decide)) rfl rfl hd (kk H locs cells slots ls h1 h2 h3 h4)
    · exact va_alen hx hb hK h1.1 a 1 (am_hei h1 ha (by decide)) rfl rfl hd (kk H locs cells slots ls h1 h2 h3 h4)
  · intro pc L S I J R i n xs hd hx0 hi kk H locs cells slots ls h1 h2 h3 h4
    obtain ⟨g1, g2, g3⟩ := hX n xs hx0
    exact va_sld (b := b) (A := fun q => base ≤ q) hx hb g1 g2 (Nat.not_le.mpr g3) h2 hi hd (kk H locs cells slots ls h1 h2 h3 h4)
  · intro pc L S I J R n xs hd hx0 kk H locs cells slots ls h1 h2 h3 h4
    obtain ⟨g1, g2, g3⟩ := hX n xs hx0
    exact va_slen (b := b) (A := fun q => base ≤ q) hx hb g1 g2 (Nat.not_le.mpr g3) h2 hd (kk H locs cells slots ls h1 h2 h3 h4)
end AMU
