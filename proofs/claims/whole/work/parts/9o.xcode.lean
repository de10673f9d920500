/-! SlopeCompiler.code: answers or throws -/
def exP (base : Nat) (U : State) : Prop :=
  (vx_Zq Bundle.tN "UNASSIGNED_STACK" Bundle.steD (fun q => base ≤ q) U U.heap ∧ vx_Zq Bundle.tN "SUPPRESSED_SENTINEL" Bundle.listD (fun q => base ≤ q) U U.heap) ∧ (∃ a, vk_R RX11 130 "no such instruction" a U) ∧ (∃ a, vk_R RX11 146 "no such what" a U) ∧ va_Nc exE exI U ∧ ∀ w ∈ exW, va_Nw w U
theorem exW_on {w : Cond} (h : w ∈ exW) : w.onTables = true := by
  simp only [exW] at h
  simp at h
  rcases h with rfl | rfl | rfl | rfl | rfl <;> rfl
theorem exW_warm {s U : State} (hW : s.WarmedH U.vm) (h : ∀ w ∈ exW, va_Nw w s) : ∀ w ∈ exW, va_Nw w U := by
  intro w hw
  have h1 := h w hw
  simp only [exW] at hw
  simp at hw
  rcases hw with rfl | rfl | rfl | rfl | rfl
  · exact va_Nw.warmC hW h1
  · exact va_Nw.warmC hW h1
  · exact va_Nw.warmD hW h1
  · exact va_Nw.warmD hW h1
  · exact va_Nw.warmD hW h1
theorem exP_warm {base : Nat} {s U : State} (hW : s.WarmedH U.vm) (hk : ∀ q : Nat, q < s.heap.size → ¬ base ≤ q → U.heap[q]? = s.heap[q]?) (h : exP base s) : exP base U := by
  obtain ⟨⟨h1, h2⟩, ⟨a, h3⟩, ⟨a', h4⟩, h5, h6⟩ := h
  exact ⟨⟨vx_Zq.moved hW.alike (h1.kept hk), vx_Zq.moved hW.alike (h2.kept hk)⟩, ⟨a, vk_R.warm hW h3⟩, ⟨a', vk_R.warm hW h4⟩, h5.moved hW.alike, exW_warm hW h6⟩
theorem exP_call {base : Nat} {U : State} {g : JFrame} {mk : MethodId} {a : Array Value} (h : exP base U) : exP base (U.calling g mk a) := by
  obtain ⟨⟨h1, h2⟩, ⟨a3, h3⟩, ⟨a4, h4⟩, h5, h6⟩ := h
  exact ⟨⟨vx_Zq.moved (u := U) (Vm.Alike.refl U.vm) h1, vx_Zq.moved (u := U) (Vm.Alike.refl U.vm) h2⟩, ⟨a3, vk_R.same (u := U) rfl h3⟩, ⟨a4, vk_R.same (u := U) rfl h4⟩, va_Nc.moved (u := U) (Vm.Alike.refl U.vm) h5, fun w hw => va_Nw.same (exW_on hw) (u := U) rfl (h6 w hw)⟩
theorem ex_ws {L : List Cond} {args : Array Value} {s : State} (hL : L.all (fun w => decide (w ∈ exW) || (goodWord w && decide (w ∈ lw_tbl))) = true) (hts : ∀ w ∈ am_GW, w.before args s = true) (hx : ∀ w ∈ exW, va_Nw w s) : ∀ w ∈ L, w.before args s = true := by
  intro w hw
  have h1 := List.all_eq_true.mp hL w hw
  simp only [Bool.or_eq_true, Bool.and_eq_true, decide_eq_true_eq] at h1
  rcases h1 with h1 | ⟨h1, h2⟩
  · exact va_tabs (exW_on h1) (u := s) rfl (hx w h1)
  · exact hts w (List.mem_filter.mpr ⟨h2, h1⟩)
def M_X11_code : MI := (yX11_code, cX11_code, 3, some .int, RX11, 0, 0)
def exRm : Room := { frames := 20, cells := 1, slots := 8, locals := 1280 }
def exPc (base b : Nat) (cy : Nat → ClassId) (D : va_G) (I : HI) (J : HJ) (R : HR) (U : State) : Prop := am_Pc base b cy D I J R U ∧ exP base U
theorem ex_blind (base b : Nat) (cy : Nat → ClassId) (D : va_G) (I : HI) (J : HJ) (R : HR) (As : List Value) : FrameBlind (va_Pc As (exPc base b cy D I J R)) := by
  intro a U g mk ⟨h0, h1, h2⟩
  obtain ⟨e0, e1⟩ := am_blind base b cy D I J R As a U g mk ⟨h0, h1⟩
  exact ⟨e0, e1, exP_call h2⟩
def codeQ (G : SP) (x1 x2 : Int32) (I : HI) (J : HJ) (R : HR) : PQ := fun r I' J' R' => I' = I ∧ J' = J ∧ R' = R ∧ ∃ k c, x1 = nI k ∧ k < G 3 0 ∧ x2 = nI c ∧ c ≤ 2 ∧ r = some (.int (nI (G c k)))
def codeE (G : SP) (x1 x2 : Int32) (E : String) : Prop := (E = exI ∧ (x1 < 0 ∨ ¬ x1 < nI (G 3 0))) ∨ (E = exE ∧ (∃ k, x1 = nI k ∧ k < G 3 0) ∧ (x2 < 0 ∨ ¬ x2 ≤ 2))
def codeX (base b : Nat) (cy : Nat → ClassId) (D : va_G) (G : SP) (x1 x2 : Int32) (I : HI) (J : HJ) (R : HR) : String → State → State → Prop := fun E st t => codeE G x1 x2 E ∧ am_Wd base b cy D I J R t.heap ∧ va_F (fun q => base ≤ q) st t
section XC
variable {p : Program} {l : Launch} {e : Env} {Rm : Room} {s : State} {m : MethodId} {args : Array Value} {below : List Frame} {meth : Method} {c : Code} {Qf Qg : Nat → Nat → State → Prop} {base b : Nat} {cy : Nat → ClassId} {D : va_G} {M : MI} {R0 : HR}
theorem K0_mono (h : ∀ t, Qf M.2.2.2.2.2.1 M.2.2.2.2.2.2 t → Qg M.2.2.2.2.2.1 M.2.2.2.2.2.2 t) {pc : Nat} {L : LV} {S : List Value} {I : HI} {J : HJ} {R : HR} (k : am_K0 p l e Rm s m args below meth c Qf base b cy D M R0 pc L S I J R) : am_K0 p l e Rm s m args below meth c Qg base b cy D M R0 pc L S I J R := by
  intro H locs cells slots ls h1 h2 h3 h4 T hT X
  obtain ⟨t, a1, b1⟩ := k H locs cells slots ls h1 h2 h3 h4 T hT X
  exact ⟨t, a1, h t b1⟩
theorem ret_mono {Q : PQ} (h : ∀ t, Qf M.2.2.2.2.2.1 M.2.2.2.2.2.2 t → Qg M.2.2.2.2.2.1 M.2.2.2.2.2.2 t) (k : ru_ret M R0 Q (am_K0 p l e Rm s m args below meth c Qf base b cy D M R0)) : ru_ret M R0 Q (am_K0 p l e Rm s m args below meth c Qg base b cy D M R0) := by
  obtain ⟨r1, r2, r3⟩ := k
  exact ⟨fun pc L I J R x ty a1 a2 a3 a4 a5 => K0_mono h (r1 pc L I J R x ty a1 a2 a3 a4 a5), fun pc L I J R x a1 a2 a3 a4 => K0_mono h (r2 pc L I J R x a1 a2 a3 a4), fun pc L I J R a1 a2 a3 a4 => K0_mono h (r3 pc L I J R a1 a2 a3 a4)⟩
theorem Wd_ext {I : HI} {J : HJ} {R : HR} {H H1 : Heap} (h : am_Wd base b cy D I J R H) (ho : ∀ q, q < H.size → H1[q]? = H[q]?) : am_Wd base b cy D I J R H1 := by
  refine ⟨fun k q hq => ?_, h.2⟩
  have h1 := h.1 k q hq
  exact h1.kept (ho _ h1.lt)
theorem vx_up {Qc : Array Value → State → Outcome → State → Prop} {XC : String → State → State → Prop} {k n k' n' : Nat} {free : Addr → Prop} (h1 : k ≤ k') (h2 : n ≤ n') {t : State} (h : MQ below Qc args s k n free t) : vx_MQ below Qc XC args s k' n' free t := by
  obtain ⟨o, a1, a2, a3, L, ⟨b1, b2, b3⟩, a5⟩ := h
  exact ⟨o, a1, a2, Or.inl ⟨a3, L, ⟨b1, b2, b3.mono h1 h2⟩, a5⟩⟩
end XC
set_option maxHeartbeats 4000000 in
theorem x_code (l : Launch) (hl : l.stackTraces = false) {x1 x2 : Int32} {I : HI} {J : HJ} {R : HR} {G : SP} {D' : Nat → Nat} {N : Nat → List Nat} {T : SP} (hw : wfG G D' N) (hc : cQ I R G N T) (base b : Nat) (cy : Nat → ClassId) (D : va_G) :
    vx_Met l yX11_code (am_wsM M_X11_code) exRm (va_Pc (([.ref 0, .int x1, .int x2] : List Value).map (am_cv base b)) (exPc base b cy D I J R)) (am_QC base b cy D (codeQ G x1 x2 I J R) R M_X11_code) (codeX base b cy D G x1 x2 I J R) 1 8 (fun q => base ≤ q) := by
  refine vx_ofW (cc := cX11_code) (maxL := 3) (ret := some .int) (by decide +kernel) rfl ?_
  intro p e s m args below meth c s₁ B hml htab hv
  obtain ⟨rfl, ⟨hWd, hK, hNW, hb1, hb2⟩, hex⟩ := hv
  have hts0 := atoms_spec (ws := am_wsM M_X11_code) B.pre
  have hts : ∀ w ∈ am_GW, w.before _ s = true := fun w hw => hts0 w (List.mem_cons_of_mem _ hw)
  have hown : s.vm.findClass RX11 = some m.cls := findClass_of_methodNamed B.named
  have X : am_Cx 18 M_X11_code p (headSpec (am_wsM M_X11_code) exRm).room s m _ meth c base cy D R := ⟨B.exec, B.bytes, hml, hown, hts, hNW, hK, ⟨by decide, by decide, by decide, by decide⟩, ⟨hb1, hb2⟩, fun h => absurd h (by decide)⟩
  have hret := ret_mono (Qg := fun _ _ => vx_MQ below (am_QC base b cy D (codeQ G x1 x2 I J R) R M_X11_code) (codeX base b cy D G x1 x2 I J R) _ s 1 8 (fun q => base ≤ q)) (fun t ht => vx_up (by decide) (by decide) ht) (s_ret (l := l) (e := e) (below := below) (b := b) (Q := codeQ G x1 x2 I J R) B.returns B.notSynchronized X)
  have hR := am_rules (d := 18) (C := am_W 18) (X0 := none) (am_sound l 18) X (fun _ _ h => by cases h) hret
  obtain ⟨⟨hU, hN⟩, ⟨a3, hs3⟩, ⟨a4, hs4⟩, -, hxw⟩ := hex
  have w1 := ex_ws ex_in1 hts hxw
  have w2 := ex_ws ex_in2 hts hxw
  have thr1 : (x1 < 0 ∨ ¬ x1 < nI (G 3 0)) → ∀ L : LV, am_K0 p l e (headSpec (am_wsM M_X11_code) exRm).room s m (([.ref 0, .int x1, .int x2] : List Value).map (am_cv base b)).toArray below meth c (fun _ _ => vx_MQ below (am_QC base b cy D (codeQ G x1 x2 I J R) R M_X11_code) (codeX base b cy D G x1 x2 I J R) (([.ref 0, .int x1, .int x2] : List Value).map (am_cv base b)).toArray s 1 8 (fun q => base ≤ q)) base b cy D M_X11_code R 15 L [] I J R := by
    intro hbad L H locs cells slots ls h1 h2 h3 h4
    obtain ⟨c1, c2, -⟩ := h4
    refine vx_throwS B.exec B.bytes hl (own := RX11) (cls := exI) (text := "no such instruction") (names := exN) (ik := 128) (is := 130) (ic := 132) (sa := a3) (A := fun q => base ≤ q) hown ex_fit.1 ex_fit.2.2.2.1 (w1 _ List.mem_cons_self) (w1 _ (List.mem_cons_of_mem _ List.mem_cons_self)) hs3 (fun w hw => w1 w (List.mem_cons_of_mem _ (List.mem_cons_of_mem _ hw))) (List.all_eq_true.mp ex_ot1) hU hN h2 (h3.1.trans hml.symm) dX11_code_15 dX11_code_18 dX11_code_19 dX11_code_21 dX11_code_24 (fun x hx => (htab x hx).elim) (by decide) (Nat.le_of_ble_eq_true rfl) ?_ ?_ B.notSynchronized (fun t _ f1 f2 => ⟨Or.inl ⟨rfl, hbad⟩, Wd_ext h1 f2, Nat.le_trans h2.1 f1, fun q q1 q2 => (f2 q (Nat.lt_of_lt_of_le q1 h2.1)).trans (h2.2.1 q q1 q2)⟩) h2.2.2 (by omega) (by omega)
    · show cells + 1 ≤ 1
      omega
    · show slots + 6 ≤ 8
      omega
  have thr2 : (∃ k, x1 = nI k ∧ k < G 3 0) → (x2 < 0 ∨ ¬ x2 ≤ 2) → ∀ L : LV, am_K0 p l e (headSpec (am_wsM M_X11_code) exRm).room s m (([.ref 0, .int x1, .int x2] : List Value).map (am_cv base b)).toArray below meth c (fun _ _ => vx_MQ below (am_QC base b cy D (codeQ G x1 x2 I J R) R M_X11_code) (codeX base b cy D G x1 x2 I J R) (([.ref 0, .int x1, .int x2] : List Value).map (am_cv base b)).toArray s 1 8 (fun q => base ≤ q)) base b cy D M_X11_code R 79 L [] I J R := by
    intro hk hbad L H locs cells slots ls h1 h2 h3 h4
    obtain ⟨c1, c2, -⟩ := h4
    refine ex_throw B.exec B.bytes hl (own := RX11) (cls := exE) (Y := "java/lang/RuntimeException") (text := "no such what") (r := ["java/lang/Exception"]) (ik := 144) (is := 146) (ic := 148) (ix := 13) (rx := exR) (sa := a4) (A := fun q => base ≤ q) (by decide +kernel) (by decide +kernel) (by decide +kernel) (by decide +kernel) hown ex_fit.2.1 ex_fit.2.2.1 ex_fit.2.2.2.2 (w2 _ List.mem_cons_self) (w2 _ (List.mem_cons_of_mem _ List.mem_cons_self)) hs4 (fun w hw => w2 w (List.mem_cons_of_mem _ (List.mem_cons_of_mem _ hw))) (List.all_eq_true.mp ex_ot2) hU hN h2 (h3.1.trans hml.symm) dX11_code_79 dX11_code_82 dX11_code_83 dX11_code_85 dX11_code_88 (fun x hx => (htab x hx).elim) (by decide) (Nat.le_of_ble_eq_true rfl) ?_ ?_ B.notSynchronized (fun t _ f1 f2 => ⟨Or.inr ⟨rfl, hk, hbad⟩, Wd_ext h1 f2, Nat.le_trans h2.1 f1, fun q q1 q2 => (f2 q (Nat.lt_of_lt_of_le q1 h2.1)).trans (h2.2.1 q q1 q2)⟩) h2.2.2 (by omega) (by omega)
    · show cells + 1 ≤ 1
      omega
    · show slots + 6 ≤ 8
      omega
  obtain ⟨hs, ⟨pp, hp5, hpx, hpP⟩, -⟩ := hc
  have h9 : G 3 0 ≤ 900 := hw.2.2.2.2.1
  have main : am_K0 p l e (headSpec (am_wsM M_X11_code) exRm).room s m (([.ref 0, .int x1, .int x2] : List Value).map (am_cv base b)).toArray below meth c (fun _ _ => vx_MQ below (am_QC base b cy D (codeQ G x1 x2 I J R) R M_X11_code) (codeX base b cy D G x1 x2 I J R) (([.ref 0, .int x1, .int x2] : List Value).map (am_cv base b)).toArray s 1 8 (fun q => base ≤ q)) base b cy D M_X11_code R 0 [(0, .ref 0), (1, .int x1), (2, .int x2)] [] I J R := by
    refine k_ld hR 1 dX11_code_0 rfl rfl rfl rfl ?_
    refine k_lt hR dX11_code_1 (tgt := 15) rfl (fun z => thr1 (Or.inl z) _) (fun z => ?_)
    refine k_ld hR 1 dX11_code_4 rfl rfl rfl rfl ?_
    refine k_ld hR 0 dX11_code_5 rfl rfl rfl rfl ?_
    refine k_gR hR dX11_code_6 lf_X11_29 rfl (sc_0 hs) hp5 ?_
    refine k_gI hR dX11_code_9 lf_X11_125 rfl (sk_X5_0 hs hpx) hpP.1 ?_
    refine k_clt hR dX11_code_12 (tgt := 25) rfl (fun z1 => ?_) (fun z1 => thr1 (Or.inr z1) _)
    obtain ⟨k, hk1, hk2⟩ : ∃ k, x1 = nI k ∧ k < G 3 0 := by
      rw [Int32.lt_iff_toInt_lt] at z z1
      rw [nI_toInt (by omega)] at z1
      simp at z
      exact ⟨x1.toInt.toNat, Int32.toInt_inj.mp (by rw [nI_toInt (by omega)]; omega), by omega⟩
    refine k_ld hR 2 dX11_code_25 rfl rfl rfl rfl ?_
    refine k_tab hR dX11_code_26 (cs := [(0, 52), (1, 61), (2, 70)]) (td := 79) (by decide) (by decide) ?_
    have fin : ∀ (c : Nat) (x : Int32), x2 = nI c → c ≤ 2 → x = nI (G c k) → codeQ G x1 x2 I J R (some (.int x)) I J R := fun c x e1 e2 e3 => ⟨rfl, rfl, rfl, k, c, hk1, hk2, e1, e2, by rw [e3]⟩
    refine swc (fun y => ?_) (fun y0 => swc (fun y => ?_) (fun y1 => swc (fun y => ?_) (fun y2 => swn (thr2 ⟨k, hk1, hk2⟩ ?_ _))))
    · refine k_ld hR 0 dX11_code_52 rfl rfl rfl rfl ?_
      refine k_gR hR dX11_code_53 lf_X11_29 rfl (sc_0 hs) hp5 ?_
      refine k_ld hR 1 dX11_code_56 rfl rfl rfl rfl ?_
      refine k_cVp hR dX11_code_57 (Or.inl lm_X11_135) (As := [.int x1]) (S := []) rfl (sk_X5_0 hs hpx) (by decide) (fit_0 rfl rfl) rfl (by rw [hk1]; exact t_pkind (d := 17) (Q := fun x => x = nI (G 0 k)) hs hpx hw hpP hk2 rfl) (fun x hx => ?_)
      exact k_iret hR dX11_code_60 rfl rfl (done_0 rfl rfl) (fin 0 x y (by decide) hx)
    · refine k_ld hR 0 dX11_code_61 rfl rfl rfl rfl ?_
      refine k_gR hR dX11_code_62 lf_X11_29 rfl (sc_0 hs) hp5 ?_
      refine k_ld hR 1 dX11_code_65 rfl rfl rfl rfl ?_
      refine k_cVp hR dX11_code_66 (Or.inl lm_X11_138) (As := [.int x1]) (S := []) rfl (sk_X5_0 hs hpx) (by decide) (fit_0 rfl rfl) rfl (by rw [hk1]; exact t_poperand (d := 17) (Q := fun x => x = nI (G 1 k)) hs hpx hw hpP hk2 rfl) (fun x hx => ?_)
      exact k_iret hR dX11_code_69 rfl rfl (done_0 rfl rfl) (fin 1 x y (by decide) hx)
    · refine k_ld hR 0 dX11_code_70 rfl rfl rfl rfl ?_
      refine k_gR hR dX11_code_71 lf_X11_29 rfl (sc_0 hs) hp5 ?_
      refine k_ld hR 1 dX11_code_74 rfl rfl rfl rfl ?_
      refine k_cVp hR dX11_code_75 (Or.inl lm_X11_141) (As := [.int x1]) (S := []) rfl (sk_X5_0 hs hpx) (by decide) (fit_0 rfl rfl) rfl (by rw [hk1]; exact t_prounds (d := 17) (Q := fun x => x = nI (G 2 k)) hs hpx hw hpP hk2 rfl) (fun x hx => ?_)
      exact k_iret hR dX11_code_78 rfl rfl (done_0 rfl rfl) (fin 2 x y (by decide) hx)
    · have n0 : ¬ x2.toInt = 0 := fun w => y0 (Int32.toInt_inj.mp w)
      have n1 : ¬ x2.toInt = 1 := fun w => y1 (Int32.toInt_inj.mp w)
      have n2 : ¬ x2.toInt = 2 := fun w => y2 (Int32.toInt_inj.mp w)
      rw [Int32.lt_iff_toInt_lt, Int32.le_iff_toInt_le]
      show x2.toInt < 0 ∨ ¬ x2.toInt ≤ 2
      omega
  have hle := lv_entry (([.ref 0, .int x1, .int x2] : List Value).map (am_cv base b)) (n := 3) (Nat.le_of_ble_eq_true rfl)
  rw [lg_entry_eq]
  rw [am_entry_map] at hle
  exact main s.heap [] 0 0 _ hWd va_S.rf hle ⟨by omega, by omega, Nat.le_refl _⟩
