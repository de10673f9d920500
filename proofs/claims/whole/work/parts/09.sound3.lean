section AMT
variable {p : Program} {l : Launch} {e : Env} {Rm : Room} {s : State} {m : MethodId} {args : Array Value} {below : List Frame} {meth : Method} {c : Code} {Qf : Nat → Nat → State → Prop} {base b : Nat} {cy : Nat → ClassId} {D : va_G} {M : MI} {R0 : HR} {d : Nat}
theorem am_toInt_inj {x y : Int32} (h : x.toInt = y.toInt) : x = y := Int32.toInt_inj.mp h
theorem s_sw (X : am_Cx d M p Rm s m args meth c base cy D R0) : ru_sw M (am_K0 p l e Rm s m args below meth c Qf base b cy D M R0) := by
  obtain ⟨hx, hb, -⟩ := X
  refine ⟨?_, ?_⟩
  · intro pc L S I J R dflt lo hi offs len td cs x hd hc k kd H locs cells slots ls h1 h2 h3 h4
    simp only [am_tab, Bool.and_eq_true, decide_eq_true_eq] at hc
    obtain ⟨⟨hc1, hc2⟩, hc3⟩ := hc
    have hin : ∀ (i : Nat) (q : Int32 × Nat), cs[i]? = some q → ∃ off, offs[i]? = some off ∧ q.1.toInt = lo + i ∧ (q.2 : Int) = pc + off := by
      intro i q hq
      have h := congrArg (fun l => l[i]?) hc1
      simp only [List.getElem?_map, hq, Option.map_some, List.getElem?_zipIdx, Array.getElem?_toList] at h
      cases ho : offs[i]? with
      | none => rw [ho] at h; simp at h
      | some off =>
        rw [ho] at h
        simp at h
        exact ⟨off, rfl, h.1, h.2⟩
    have hlen : cs.length = offs.size := by
      have h := congrArg List.length hc1
      simpa using h
    by_cases hout : x.toInt < lo ∨ hi < x.toInt
    · refine lv_tableOut hx hb hd hout hc3 (kd ?_ H locs cells slots ls h1 h2 h3 h4)
      intro q hq hxq
      obtain ⟨i, hi2⟩ := List.getElem?_of_mem hq
      obtain ⟨off, ho, e1, e2⟩ := hin i q hi2
      have hlt : i < offs.size := (Array.getElem?_eq_some_iff.mp ho).1
      rw [hxq] at hout
      omega
    · have h1' : ¬ x.toInt < lo := fun h => hout (Or.inl h)
      have h2' : ¬ hi < x.toInt := fun h => hout (Or.inr h)
      have hlt : (x.toInt - lo).toNat < cs.length := by omega
      have hq : cs[(x.toInt - lo).toNat]? = some cs[(x.toInt - lo).toNat] := List.getElem?_eq_getElem hlt
      obtain ⟨off, ho, e1, e2⟩ := hin _ _ hq
      refine lv_tableIn hx hb hd h1' h2' ho (by rw [e2]) (k _ (List.getElem_mem hlt) ?_ H locs cells slots ls h1 h2 h3 h4)
      apply am_toInt_inj
      rw [e1]
      omega
  · intro pc L S I J R dflt ps len td cs x hd hc k kd H locs cells slots ls h1 h2 h3 h4
    simp only [am_lkp, Bool.and_eq_true, decide_eq_true_eq] at hc
    obtain ⟨⟨hc1, hc2⟩, hc3⟩ := hc
    have key : ∀ (ps : List (Int × Int)) (cs : List (Int32 × Nat)), cs.map (fun q => (q.1.toInt, (q.2 : Int))) = ps.map (fun q => (q.1, (pc : Int) + q.2)) →
        (∃ q ∈ cs, x = q.1 ∧ (pc : Int) + Op.lookupswitch.offset ps dflt x.toInt = (q.2 : Int)) ∨ ((∀ q ∈ cs, ¬ x = q.1) ∧ Op.lookupswitch.offset ps dflt x.toInt = dflt) := by
      intro ps
      induction ps with
      | nil =>
        intro cs h
        have : cs = [] := by simpa using h
        subst this
        exact Or.inr ⟨fun q h => absurd h List.not_mem_nil, by simp [Op.lookupswitch.offset]⟩
      | cons a t ih =>
        intro cs h
        cases cs with
        | nil => simp at h
        | cons q cs =>
          simp only [List.map_cons, List.cons.injEq, Prod.mk.injEq] at h
          obtain ⟨⟨e1, e2⟩, h⟩ := h
          by_cases hxa : x.toInt = a.1
          · refine Or.inl ⟨q, List.mem_cons_self, am_toInt_inj (by rw [e1, hxa]), ?_⟩
            rw [e2]
            simp [Op.lookupswitch.offset, hxa]
          · have hne : Op.lookupswitch.offset (a :: t) dflt x.toInt = Op.lookupswitch.offset t dflt x.toInt := by
              have hxa' : ¬ a.1 = x.toInt := fun h => hxa h.symm
              simp [Op.lookupswitch.offset, hxa, hxa']
            rw [hne]
            rcases ih cs h with ⟨q', hq', e3, e4⟩ | ⟨h3', h4'⟩
            · exact Or.inl ⟨q', List.mem_cons_of_mem _ hq', e3, e4⟩
            · refine Or.inr ⟨fun q' hq' => ?_, h4'⟩
              rcases List.mem_cons.mp hq' with rfl | hq'
              · intro hxq
                rw [hxq, e1] at hxa
                exact hxa rfl
              · exact h3' q' hq'
    rcases key ps.toList cs hc1 with ⟨q, hq, e1, e2⟩ | ⟨hn, e1⟩
    · exact lv_lookup hx hb hd hc3 rfl e2 (k q hq e1 H locs cells slots ls h1 h2 h3 h4)
    · exact lv_lookup hx hb hd hc3 e1 hc2 (kd hn H locs cells slots ls h1 h2 h3 h4)
theorem am_he {I : HI} {J : HJ} {R : HR} {H : Heap} {a k : Nat} (h : am_Wd base b cy D I J R H) (ha : am_is R a k) (hk : k < 12) : (am_ws base b cy I J R (am_n R))[a]? = some (am_ad base b a, .inr (k, am_fs base b I R k a)) := by
  have h1 := h.2
  rw [am_ws_get ha.1, am_ad_lt (by have := ha.1; omega)]
  simp [am_ent, ha.2, hk]
theorem am_hei {I : HI} {J : HJ} {R : HR} {H : Heap} {a k : Nat} (h : am_Wd base b cy D I J R H) (ha : am_is R a k) (hk : k = 12 ∨ k = 13 ∨ k = 15) : (am_ws base b cy I J R (am_n R))[a]? = some (am_ad base b a, .inl (cy k, (am_T a).2, .inl (I a))) := by
  have h1 := h.2
  rw [am_ws_get ha.1, am_ad_lt (by have := ha.1; omega)]
  simp only [am_ent, ha.2]
  rw [if_neg (by omega), if_neg (by omega)]
theorem am_hej {I : HI} {J : HJ} {R : HR} {H : Heap} {a : Nat} (h : am_Wd base b cy D I J R H) (ha : am_is R a 14) : (am_ws base b cy I J R (am_n R))[a]? = some (am_ad base b a, .inl (cy 14, (am_T a).2, .inr (.inl (J a)))) := by
  have h1 := h.2
  rw [am_ws_get ha.1, am_ad_lt (by have := ha.1; omega)]
  simp [am_ent, ha.2]
theorem s_get (X : am_Cx d M p Rm s m args meth c base cy D R0) : ru_get M (am_K0 p l e Rm s m args below meth c Qf base b cy D M R0) := by
  obtain ⟨hx, hb, -, hown, hts, -, hK, -⟩ := X
  refine ⟨?_, ?_⟩
  · intro pc L S I J R idx k j a hd ⟨q, hq, hj, hl⟩ hr ha kk H locs cells slots ls h1 h2 h3 h4
    obtain ⟨hfn, hk⟩ := am_cls_fn hq
    refine va_get (ref := (q.2.1 j).1) hx hb hts (am_u_in k q hq) hown hK h1.1 a (am_he h1 ha hk) hq j hj (hts _ hl) (fun _ h => h) (v := .int (I a j)) ?_ hd (kk H locs cells slots ls h1 h2 h3 h4)
    rw [am_fs_get (by rw [hfn]; exact hj), hr]
    rfl
  · intro pc L S I J R idx k j a b' hd ⟨q, hq, hj, hl⟩ hr ha hR kk H locs cells slots ls h1 h2 h3 h4
    obtain ⟨hfn, hk⟩ := am_cls_fn hq
    refine va_get (ref := (q.2.1 j).1) hx hb hts (am_u_in k q hq) hown hK h1.1 a (am_he h1 ha hk) hq j hj (hts _ hl) (fun _ h => h) (v := .ref (am_ad base b b')) ?_ hd (kk H locs cells slots ls h1 h2 h3 h4)
    rw [am_fs_get (by rw [hfn]; exact hj), hr, hR]
    rfl
theorem am_put {I I' : HI} {J J' : HJ} {R R' : HR} {H1 : Heap} {a : Nat} {e : va_E} (hn : am_n R' = am_n R) (hle : am_n R ≤ 900) (ha : a < am_n R) (hI : ∀ c, ¬ c = a → I' c = I c) (hJ : ∀ c, ¬ c = a → J' c = J c) (hR : ∀ c, ¬ c = a → c < 900 → R' c = R c) (he : am_ent base b cy I' J' R' a = e)
    (h : va_P D am_cls ((am_ws base b cy I J R (am_n R)).set a (am_ad base b a, e)) H1) : am_Wd base b cy D I' J' R' H1 := by
  refine ⟨?_, by rw [hn]; exact hle⟩
  rw [am_ad_lt (by omega), ← he, am_ws_set (fun c hc hca => am_ent_congr (hI c hca) (hJ c hca) (hR c hca (by omega)))] at h
  rw [hn]
  exact h
end AMT
