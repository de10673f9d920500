/-! the law's own code(): catches what SlopeCompiler.code throws -/
def M_L_code : MI := (yL_code, cL_code, 5, some .int, RL, 1, 8)
abbrev exHH : List (Nat × Nat × Nat × Nat) := [(0, 10, 13, 13), (0, 10, 17, 15)]
def exWs : List Cond := .codeWith yL_code cL_code 5 (some .int) exHH :: am_GW
def lcRm : Room := { frames := 24, cells := 1, slots := 8, locals := 1600 }
theorem Wd_g {base b : Nat} {cy : Nat → ClassId} {D : va_G} {I : HI} {J : HJ} {R : HR} {H : Heap} (h : am_Wd base b cy D I J R H) : am_Wd base b cy D I J (gUp R) H := by
  have hn : am_n (gUp R) = am_n R := by simp only [am_n]; rw [gUp_ne (by decide)]
  have h9 := h.2
  refine ⟨fun k q hq => ?_, by rw [hn]; exact h9⟩
  rw [hn] at hq
  have hk : k < am_n R := by
    have := (List.getElem?_eq_some_iff.mp hq).1
    simpa [am_ws] using this
  rw [am_ws_get hk, am_ent_congr (I := I) (J := J) (R := R) rfl rfl (funext fun j => gUp_ne (by omega))] at hq
  exact h.1 k q (by rw [am_ws_get hk]; exact hq)
theorem gUp_c {R : HR} : am_cc (gUp R) = am_cc R + 1 ∧ am_sc (gUp R) = am_sc R + 8 := by
  have hn : am_n (gUp R) = am_n R := by simp only [am_n]; rw [gUp_ne (by decide)]
  simp only [am_cc, am_sc, hn, gUp_g]
  omega
def lcQ (G : SP) (x1 x2 : Int32) (I : HI) (J : HJ) (R : HR) : PQ := fun r I' J' R' => I' = I ∧ R' = gUp R ∧
  ((r = some (.int 1) ∧ J' = J ∧ (x1 < 0 ∨ ¬ x1 < nI (G 3 0))) ∨ (r = some (.int 2) ∧ J' = J ∧ (∃ k, x1 = nI k ∧ k < G 3 0) ∧ (x2 < 0 ∨ ¬ x2 ≤ 2)) ∨ (∃ k c, x1 = nI k ∧ k < G 3 0 ∧ x2 = nI c ∧ c ≤ 2 ∧ r = some (.int 0) ∧ J' = up J 121 0 (nI (G c k)).toInt64))
set_option maxHeartbeats 4000000 in
theorem l_code (l : Launch) (hl : l.stackTraces = false) {x1 x2 : Int32} {I : HI} {J : HJ} {R : HR} {G : SP} {D' : Nat → Nat} {N : Nat → List Nat} {T : SP} (hw : wfG G D' N) (hc : cQ I R G N T) (base b : Nat) (cy : Nat → ClassId) (D : va_G) :
    vx_Met l yL_code exWs lcRm (va_Pc (([.ref 0, .int x1, .int x2, .ref 121] : List Value).map (am_cv base b)) (exPc base b cy D I J R)) (am_QC base b cy D (lcQ G x1 x2 I J R) R M_L_code) (fun _ _ _ => False) 1 8 (fun q => base ≤ q) := by
  refine vx_ofWH (cc := cL_code) (maxL := 5) (ret := some .int) (hh := exHH) (by decide +kernel) rfl ?_
  intro p e s m args below meth c s₁ B hml hv
  obtain ⟨rfl, ⟨hWd, hK, hNW, hb1, hb2⟩, hex⟩ := hv
  have hs := hc.1
  have hts0 := atoms_spec (ws := exWs) B.pre
  have hts : ∀ w ∈ am_GW, w.before _ s = true := fun w hw => hts0 w (List.mem_cons_of_mem _ hw)
  have htab := vx_table (x := yL_code) B (hts0 _ List.mem_cons_self)
  have hown : s.vm.findClass RL = some m.cls := findClass_of_methodNamed B.named
  have X : am_Cx 20 M_L_code p (headSpec exWs lcRm).room s m _ meth c base cy D R := ⟨B.exec, B.bytes, hml, hown, hts, hNW, hK, ⟨by decide, by decide, by decide, by decide⟩, ⟨hb1, hb2⟩, fun h => absurd h (by decide)⟩
  have hret := ret_mono (Qg := fun _ _ => vx_MQ below (am_QC base b cy D (lcQ G x1 x2 I J R) R M_L_code) (fun _ _ _ => False) _ s 1 8 (fun q => base ≤ q)) (fun t ht => vx_up (Nat.le_refl _) (Nat.le_refl _) ht) (s_ret (l := l) (e := e) (below := below) (b := b) (Q := lcQ G x1 x2 I J R) B.returns B.notSynchronized X)
  have hR := am_rules (d := 20) (C := am_W 20) (X0 := none) (am_sound l 20) X (fun _ _ h => by cases h) hret
  have retG : ∀ (pc : Nat) (L : LV) (x : Int32) (J' : HJ), decode cL_code pc = .ok (.ireturn, 1) → lcQ G x1 x2 I J R (some (.int x)) I J' (gUp R) → am_K0 p l e (headSpec exWs lcRm).room s m (([.ref 0, .int x1, .int x2, .ref 121] : List Value).map (am_cv base b)).toArray below meth c (fun _ _ => vx_MQ below (am_QC base b cy D (lcQ G x1 x2 I J R) R M_L_code) (fun _ _ _ => False) (([.ref 0, .int x1, .int x2, .ref 121] : List Value).map (am_cv base b)).toArray s 1 8 (fun q => base ≤ q)) base b cy D M_L_code R pc L [.int x] I J' (gUp R) := by
    intro pc L x J' hd hq H locs cells slots ls h1 h2 h3 h4
    obtain ⟨c1, c2, -⟩ := h4
    have hg := gUp_c (R := R)
    have e1 : cells = 1 := by omega
    have e2 : slots = 8 := by omega
    subst e1 e2
    exact vx_ret (W.iret B.exec B.bytes B.returns (fun t ht _ => ⟨⟨_, I, J', gUp R, rfl, Or.inr (Or.inl ⟨x, rfl⟩), hq, hg.1, hg.2, by rw [gUp_g]; omega, by rw [ht]; exact h1⟩, h2.F ht⟩) h2.2.2 hd B.notSynchronized)
  have k8 : ∀ (L : LV) (k c9 : Nat), x1 = nI k → k < G 3 0 → x2 = nI c9 → c9 ≤ 2 → am_K0 p l e (headSpec exWs lcRm).room s m (([.ref 0, .int x1, .int x2, .ref 121] : List Value).map (am_cv base b)).toArray below meth c (fun _ _ => vx_MQ below (am_QC base b cy D (lcQ G x1 x2 I J R) R M_L_code) (fun _ _ _ => False) (([.ref 0, .int x1, .int x2, .ref 121] : List Value).map (am_cv base b)).toArray s 1 8 (fun q => base ≤ q)) base b cy D M_L_code R 8 L [.int (nI (G c9 k)), .int 0, .ref 121] I J (gUp R) := by
    intro L k c9 a1 a2 a3 a4
    refine k_op hR dL_code_8 rfl rfl ?_
    refine k_last hR dL_code_9 (sc_121 (Stat_g hs)) sn_121 (by decide) (n := 0) rfl (by decide) ?_
    refine k_goto hR dL_code_10 (tgt := 21) rfl ?_
    refine k_ic hR dL_code_21 (v := 0) (by decide) ?_
    exact retG 22 L 0 _ dL_code_22 ⟨rfl, rfl, Or.inr (Or.inr ⟨k, c9, a1, a2, a3, a4, rfl, rfl⟩)⟩
  have k15 : (x1 < 0 ∨ ¬ x1 < nI (G 3 0)) → am_K0 p l e (headSpec exWs lcRm).room s m (([.ref 0, .int x1, .int x2, .ref 121] : List Value).map (am_cv base b)).toArray below meth c (fun _ _ => vx_MQ below (am_QC base b cy D (lcQ G x1 x2 I J R) R M_L_code) (fun _ _ _ => False) (([.ref 0, .int x1, .int x2, .ref 121] : List Value).map (am_cv base b)).toArray s 1 8 (fun q => base ≤ q)) base b cy D M_L_code R 15 [] [] I J (gUp R) := fun hb => k_ic hR dL_code_15 (v := 1) (by decide) (retG 16 [] 1 J dL_code_16 ⟨rfl, rfl, Or.inl ⟨rfl, rfl, hb⟩⟩)
  have k19 : (∃ k, x1 = nI k ∧ k < G 3 0) → (x2 < 0 ∨ ¬ x2 ≤ 2) → am_K0 p l e (headSpec exWs lcRm).room s m (([.ref 0, .int x1, .int x2, .ref 121] : List Value).map (am_cv base b)).toArray below meth c (fun _ _ => vx_MQ below (am_QC base b cy D (lcQ G x1 x2 I J R) R M_L_code) (fun _ _ _ => False) (([.ref 0, .int x1, .int x2, .ref 121] : List Value).map (am_cv base b)).toArray s 1 8 (fun q => base ≤ q)) base b cy D M_L_code R 19 [] [] I J (gUp R) := fun h1 hb => k_ic hR dL_code_19 (v := 2) (by decide) (retG 20 [] 2 J dL_code_20 ⟨rfl, rfl, Or.inr (Or.inl ⟨rfl, rfl, h1, hb⟩)⟩)
  have k5 : ∀ L : LV, am_K0 p l e (headSpec exWs lcRm).room s m (([.ref 0, .int x1, .int x2, .ref 121] : List Value).map (am_cv base b)).toArray below meth c (fun _ _ => vx_MQ below (am_QC base b cy D (lcQ G x1 x2 I J R) R M_L_code) (fun _ _ _ => False) (([.ref 0, .int x1, .int x2, .ref 121] : List Value).map (am_cv base b)).toArray s 1 8 (fun q => base ≤ q)) base b cy D M_L_code R 5 L [.int x2, .int x1, .ref 0, .int 0, .ref 121] I J R := by
    intro L H locs cells slots ls h1 h2 h3 h4
    refine am_szW fun hle => ?_
    have hrecv := va_recv hK h1.1 (rfl : am_cls[10]? = some (RX11, TX11, 15)) (am_he h1 (sc_0 hs) (by decide))
    have hct : am_ct R (gUp R) (cells + 1) (slots + 8) := by
      obtain ⟨d1, d2, d3⟩ := h4
      have hg := gUp_c (R := R)
      exact ⟨by omega, by omega, by rw [gUp_g]; omega⟩
    have hP : PreV s H RX11 (am_ad base b 0) (va_Pc (([.ref 0, .int x1, .int x2] : List Value).map (am_cv base b)) (exPc base b cy D I J R)) [.int x1, .int x2] := by
      refine ⟨ex_blind _ _ _ _ _ _ _ _, hrecv, fun U hU hW => ⟨rfl, ⟨by rw [hU]; exact h1, va_K.moved hW.alike hK, fun w hw => ?_, by rw [hU]; exact Nat.le_trans hb1 h2.1, fun hg => by rw [hU]; exact am_size_eq h1 h2 hb1 hb2 h4 hle hg⟩, exP_warm hW (fun q q1 q2 => by rw [hU]; exact h2.2.1 q q1 q2) hex⟩⟩
      obtain ⟨a1, a2, a3, a4, rfl⟩ := am_NW_form hw
      exact va_Nw.warmM hW (hNW _ hw)
    have fits : cells + 1 ≤ (headSpec exWs lcRm).room.cells ∧ slots + 8 ≤ (headSpec exWs lcRm).room.slots := by
      obtain ⟨d1, d2, d3⟩ := h4
      show cells + 1 ≤ 1 ∧ slots + 8 ≤ 8
      omega
    have hin : am_in (.code yX11_code cX11_code 3 (some .int)) := am_ac in_t5 34 rfl rfl
    have run := vx_runV (p := p) (e := e) (below := below) (meth := meth) (locs := locs) (cells := cells) (slots := slots) (g := F0 m 5 ls ([.int x2, .int x1, .ref (am_ad base b 0), .int 0, .ref (am_ad base b 121)])) (rest := [.int 0, .ref (am_ad base b 121)]) (Ts := am_GW) (cc := cL_code) (nL := 5) ⟨B.exec, B.bytes, hml, hown, hts⟩ (x_code l hl hw hc base b cy D (x1 := x1) (x2 := x2)) ⟨callB_of 2 hts (am_gin M_X11_code hin) rfl rfl rfl (hts _ (am_ac in_t1 1 rfl rfl)) (hts _ (am_ac in_t5 31 rfl rfl)) ⟨by decide, by decide, by decide +kernel⟩ ⟨by decide, by decide⟩, hts _ (am_ac in_t5 32 rfl rfl), hts _ (am_ac in_t5 33 rfl rfl)⟩ hP rfl rfl h3.1 rfl (Nat.le_of_ble_eq_true rfl) dL_code_5 fits
    intro T0 hT X0
    rcases run T0 hT X0 with ⟨v, st₀, t, T', L', h0, X', hL, e1, e2, ⟨⟨r, I', J', R', hv, hnr, ⟨rfl, rfl, rfl, k, c', a1, a2, a3, a4, rfl⟩, -, -, -, hWt⟩, hF⟩, st⟩ | ⟨q, st₀, t, T', L', E, ce, h0, X', hL, e1, e2, ⟨hE, hWt, hF⟩, hce, hcv, hcl, st⟩
    · cases hv
      obtain ⟨f1, f2, f3⟩ := vx_keep h0 e1 h2 (fun _ _ h => h) (fun _ h => h) hL hF
      obtain ⟨t2, g1, g2⟩ := k8 L k c' a1 a2 a3 a4 T'.heap (locs ++ L') (cells + 1) (slots + 8) ls (Wd_g (by rw [e1]; exact hWt)) f3 h3 hct T' rfl X'
      exact ⟨t2, st t2 g1, g2⟩
    · obtain ⟨f1, f2, f3⟩ := vx_keep h0 e1 h2 (fun _ _ h => h) (fun _ h => h) hL hF
      have hWt' : am_Wd base b cy D I J (gUp R) T'.heap := Wd_g (by rw [e1]; exact hWt)
      have hce' : T'.heap[q]? = some ce := by rw [e1]; exact hce
      have hxw := hex.2.2.2.2
      have lv0 : ∀ {ls' : Array Slot} {l0 : LV}, lv_has ls' 5 l0 → lv_has ls' 5 (am_lv base b []) := fun h => ⟨h.1, h.2.1, fun q hq => by cases hq⟩
      rcases hE with ⟨rfl, hbad⟩ | ⟨rfl, hk, hbad⟩
      · obtain ⟨t2, g1, g2⟩ := vx_catch (p := p) (l := l) (e := e) (R := (headSpec exWs lcRm).room) (below := below) (meth := meth) (Q := vx_MQ below (am_QC base b cy D (lcQ G x1 x2 I J R) R M_L_code) (fun _ _ _ => False) (([.ref 0, .int x1, .int x2, .ref 121] : List Value).map (am_cv base b)).toArray s 1 8 (fun q => base ≤ q)) (pc := 5) (ls := ls) (rest := [.int 0, .ref (am_ad base b 121)]) (locs := locs ++ L') (cells := cells + 1) (slots := slots + 8) (own := RL) (name := exI) hown [] ⟨0, 10, 13, 13⟩ [⟨0, 10, 17, 15⟩] (htab.trans rfl) (fun z hz => by cases hz) (by decide) (by decide) (hts _ (am_ac in_t5 29 rfl rfl)) (va_tabs rfl (u := s) rfl (hxw _ (by simp [exW]))) hce' hcv hcl (lv_astore B.exec B.bytes dL_code_13 h3 (by decide) rfl (fun ls' h' => k15 hbad T'.heap (locs ++ L') (cells + 1) (slots + 8) ls' hWt' f3 (lv0 h') hct)) T' rfl X'
        exact ⟨t2, st.trans g1, g2⟩
      · obtain ⟨t2, g1, g2⟩ := vx_catch (p := p) (l := l) (e := e) (R := (headSpec exWs lcRm).room) (below := below) (meth := meth) (Q := vx_MQ below (am_QC base b cy D (lcQ G x1 x2 I J R) R M_L_code) (fun _ _ _ => False) (([.ref 0, .int x1, .int x2, .ref 121] : List Value).map (am_cv base b)).toArray s 1 8 (fun q => base ≤ q)) (pc := 5) (ls := ls) (rest := [.int 0, .ref (am_ad base b 121)]) (locs := locs ++ L') (cells := cells + 1) (slots := slots + 8) (own := RL) (name := exE) hown [⟨0, 10, 13, 13⟩] ⟨0, 10, 17, 15⟩ [] (htab.trans rfl) (fun z hz => by
            rcases List.mem_cons.mp hz with rfl | hz
            · exact Or.inr ⟨by decide, exI, hts _ (am_ac in_t5 29 rfl rfl), hex.2.2.2.1⟩
            · cases hz) (by decide) (by decide) (hts _ (am_ac in_t5 30 rfl rfl)) (va_tabs rfl (u := s) rfl (hxw _ (by simp [exW]))) hce' hcv hcl (lv_astore B.exec B.bytes dL_code_17 h3 (by decide) rfl (fun ls' h' => k19 hk hbad T'.heap (locs ++ L') (cells + 1) (slots + 8) ls' hWt' f3 (lv0 h') hct)) T' rfl X'
        exact ⟨t2, st.trans g1, g2⟩
  have main : am_K0 p l e (headSpec exWs lcRm).room s m (([.ref 0, .int x1, .int x2, .ref 121] : List Value).map (am_cv base b)).toArray below meth c (fun _ _ => vx_MQ below (am_QC base b cy D (lcQ G x1 x2 I J R) R M_L_code) (fun _ _ _ => False) (([.ref 0, .int x1, .int x2, .ref 121] : List Value).map (am_cv base b)).toArray s 1 8 (fun q => base ≤ q)) base b cy D M_L_code R 0 [(0, .ref 0), (1, .int x1), (2, .int x2), (3, .ref 121)] [] I J R := by
    refine k_ld hR 3 dL_code_0 rfl rfl rfl rfl ?_
    refine k_ic hR dL_code_1 (v := 0) (by decide) ?_
    refine k_ld hR 0 dL_code_2 rfl rfl rfl rfl ?_
    refine k_ld hR 1 dL_code_3 rfl rfl rfl rfl ?_
    refine k_ld hR 2 dL_code_4 rfl rfl rfl rfl ?_
    exact k5 _
  have hle := lv_entry (([.ref 0, .int x1, .int x2, .ref 121] : List Value).map (am_cv base b)) (n := 5) (Nat.le_of_ble_eq_true rfl)
  rw [lg_entry_eq]
  rw [am_entry_map] at hle
  exact main s.heap [] 0 0 _ hWd va_S.rf hle ⟨by omega, by omega, Nat.le_refl _⟩
