/-! the law's start: the tables' classes, what the exceptions stand on, code() in the law -/
theorem ex_inst : ∀ (k : Nat) (q : vw_C), am_cls[k]? = some q → am_in (.instantiable q.1 q.2.2)
  | 0, q, h => by cases h; exact am_ac in_t1 238 rfl rfl
  | 1, q, h => by cases h; exact am_ac in_t1 154 rfl rfl
  | 2, q, h => by cases h; exact am_ac in_t2 77 rfl rfl
  | 3, q, h => by cases h; exact am_ac in_t1 31 rfl rfl
  | 4, q, h => by cases h; exact am_ac in_t1 100 rfl rfl
  | 5, q, h => by cases h; exact am_ac in_t1 37 rfl rfl
  | 6, q, h => by cases h; exact am_ac in_t2 61 rfl rfl
  | 7, q, h => by cases h; exact am_ac in_t1 160 rfl rfl
  | 8, q, h => by cases h; exact am_ac in_t1 179 rfl rfl
  | 9, q, h => by cases h; exact am_ac in_t2 95 rfl rfl
  | 10, q, h => by cases h; exact am_ac in_t1 23 rfl rfl
  | 11, q, h => by cases h; exact am_ac in_t5 121 rfl rfl
  | n + 12, q, h => by simp [am_cls] at h
theorem ex_K {args : Array Value} {s : State} (hts : ∀ w ∈ am_GW, w.before args s = true) : ∃ (D : va_G) (cy : Nat → ClassId), va_K D am_cls (am_tys cy) s := by
  have h1 : ∀ k : Nat, ∃ x : ClassId × (Nat → Nat), ∀ q, am_cls[k]? = some q → u_Kn s q.1 q.2.1 q.2.2 x.1 x.2 := by
    intro k
    cases hq : am_cls[k]? with
    | none => exact ⟨(0, fun _ => 0), fun q h => by cases h⟩
    | some q =>
      obtain ⟨cC, iS, h⟩ := u_known hts (am_u_in k q hq) (hts _ (ex_inst k q hq))
      exact ⟨(cC, iS), fun q' h' => by cases h'; exact h⟩
  obtain ⟨f, hf⟩ := Classical.skolem.mp h1
  obtain ⟨cB, kB, pB, b1, b2, b3⟩ := Cond.arrayClass_spec (hts (.arrayClass .byte) (am_ac in_t1 64 rfl rfl))
  obtain ⟨cI, kI, pI, i1, i2, i3⟩ := Cond.arrayClass_spec (hts (.arrayClass .int) (am_ac in_t1 65 rfl rfl))
  obtain ⟨cJ, kJ, pJ, j1, j2, j3⟩ := Cond.arrayClass_spec (hts (.arrayClass .long) (am_ac in_t6 195 rfl rfl))
  obtain ⟨cZ, kZ, pZ, y1, y2, y3⟩ := Cond.arrayClass_spec (hts (.arrayClass .boolean) (am_ac in_t1 236 rfl rfl))
  refine ⟨(fun k => (f k).1, fun k => (f k).2), fun k => if k = 12 then cB else if k = 13 then cI else if k = 14 then cJ else cZ, fun k q hq => hf k q hq, fun k q hq => ?_⟩
  match k, hq with
  | 0, hq => cases hq; exact ⟨fun n z => ⟨fun k h => (by cases h), kB, b2, pB, b3⟩, b1⟩
  | 1, hq => cases hq; exact ⟨fun n z => ⟨fun k h => (by cases h), kI, i2, pI, i3⟩, i1⟩
  | 2, hq => cases hq; exact ⟨fun n z => ⟨fun k h => (by cases h), kJ, j2, pJ, j3⟩, j1⟩
  | 3, hq => cases hq; exact ⟨fun n z => ⟨fun k h => (by cases h), kZ, y2, pZ, y3⟩, y1⟩
  | n + 4, hq => simp [am_tys] at hq
theorem lw_in {t : List Cond} {w : Cond} (h : ∀ {w}, w ∈ t → w ∈ lw_tbl) (i : Nat) (hi : t[i]? = some w) : w ∈ lw_tbl := h (List.mem_of_getElem? hi)
theorem ex_start {s : State} {b : Nat} (hts : ∀ w ∈ lw_tbl, w.before #[Value.ref b] s = true) (hgv : (Jvm.Cond.and given_1 narrow_1).before #[Value.ref b] s = true) : exP s.heap.size s := by
  have hfl := flat_of_before _ hgv
  have hA : ∀ a : Nat, a < s.heap.size → ¬ (s.heap.size ≤ a) := fun a h => Nat.not_le_of_lt h
  have hini : (Cond.initialized Bundle.tN).before #[Value.ref b] s = true := hts _ (lw_in in_t1 16 rfl)
  have hown : ∃ cur, s.vm.findClass RX11 = some cur := by
    obtain ⟨c1, k1, hc1, -⟩ := Cond.instantiable_spec (hts (.instantiable RX11 15) (lw_in in_t1 23 rfl))
    exact ⟨c1, hc1⟩
  obtain ⟨cur, hcur⟩ := hown
  refine ⟨⟨vx_Zqof (hts _ (lw_in in_t5 62 rfl)) hini (hfl _ (by decide +kernel)) hA, vx_Zqof (hts _ (lw_in in_t5 64 rfl)) hini (hfl _ (by decide +kernel)) hA⟩, ?_, ?_, va_Nc.of (hfl _ (by decide +kernel)), fun w hw => ?_⟩
  · have h1 := hts (.stringRef RX11 130 "no such instruction") (lw_in in_t5 75 rfl)
    obtain ⟨k, cf, i, a, -, -, -, -, -, h2⟩ := Cond.stringRef_spec hcur h1
    exact ⟨a, vk_R.of h1 h2⟩
  · have h1 := hts (.stringRef RX11 146 "no such what") (lw_in in_t5 113 rfl)
    obtain ⟨k, cf, i, a, -, -, -, -, -, h2⟩ := Cond.stringRef_spec hcur h1
    exact ⟨a, vk_R.of h1 h2⟩
  · have h1 := List.all_eq_true.mp ex_inW w hw
    rw [decide_eq_true_eq] at h1
    exact va_tabs (exW_on hw) (u := s) rfl (hts w h1)
section LS
variable {p : Program} {l : Launch} {e : Env} {s : State} {m : MethodId} {args : Array Value} {below : List Frame} {meth : Method} {c : Code} {Qf : Nat → Nat → State → Prop} {base b : Nat} {cy : Nat → ClassId} {D : va_G}
set_option maxHeartbeats 4000000 in
theorem law_code (hl : l.stackTraces = false) (X : am_Cx 64 M_L_law p room_1 s m args meth c base cy D RZ) (hex : exP base s) : codeRule (am_K0 p l e room_1 s m args below meth c Qf base b cy D M_L_law RZ) := by
  intro L I J R G D' N T x1 x2 hw hc hg h1 h2 h0 H locs cells slots ls g1 g2 g3 g4
  obtain ⟨hx, hb, hml, hown, hts, hNW, hK, -, ⟨hbase, hb0⟩, -⟩ := X
  refine am_szW fun hle => ?_
  have hs := hc.1
  have hgc := gUp_c (R := R)
  have e1 : am_cc R = 122 + am_g R := by simp only [am_cc, hs.n]
  have e2 : am_sc R = 49471 + 8 * am_g R := by simp only [am_sc, hs.n, SL_122]
  have e3 : am_cc RZ = 0 := rfl
  have e4 : am_sc RZ = 0 := rfl
  have hct : am_ct RZ (gUp R) (cells + 1) (slots + 8) := by
    obtain ⟨d1, d2, d3⟩ := g4
    exact ⟨by omega, by omega, by rw [gUp_g]; omega⟩
  have hP : PreS s H (va_Pc (([.ref 0, .int x1, .int x2, .ref 121] : List Value).map (am_cv base b)) (exPc base b cy D I J R)) (([.ref 0, .int x1, .int x2, .ref 121] : List Value).map (am_cv base b)) := by
    refine ⟨ex_blind _ _ _ _ _ _ _ _, fun U hU hW => ⟨rfl, ⟨by rw [hU]; exact g1, va_K.moved hW.alike hK, fun w hw => ?_, by rw [hU]; exact Nat.le_trans hbase g2.1, fun hg => by rw [hU]; exact am_size_eq g1 g2 hbase hb0 g4 hle hg⟩, exP_warm hW (fun q q1 q2 => by rw [hU]; exact g2.2.1 q q1 q2) hex⟩⟩
    obtain ⟨a1, a2, a3, a4, rfl⟩ := am_NW_form hw
    exact va_Nw.warmM hW (hNW _ hw)
  have fits : cells + 1 ≤ room_1.cells ∧ slots + 8 ≤ room_1.slots := by
    obtain ⟨d1, d2, d3⟩ := g4
    show cells + 1 ≤ 601024 ∧ slots + 8 ≤ 7293034
    omega
  have hT : GoodIn am_GW (va_wsS RL 40 yL_code exWs) := by
    intro w hw
    simp only [va_wsS, exWs, List.cons_append, List.nil_append, List.mem_cons] at hw
    rcases hw with rfl | rfl | rfl | rfl | hw
    · exact am_in_good (am_ac in_t5 26 rfl rfl)
    · exact am_in_good (am_ac in_t5 27 rfl rfl)
    · exact am_in_good (am_ac in_t1 0 rfl rfl)
    · exact am_in_good (am_ac in_t5 28 rfl rfl)
    · exact am_in_good hw
  have run := vx_runSX (p := p) (e := e) (below := below) (meth := meth) (locs := locs) (cells := cells) (slots := slots) (g := F0 m 370 ls ([.ref (am_ad base b 121), .int x2, .int x1, .ref (am_ad base b 0)])) (rest := []) (Ts := am_GW) (cc := cL_law) (nL := 7) (R := room_1) ⟨hx, hb, hml, hown, hts⟩ (l_code l hl hw hc base b cy D (x1 := x1) (x2 := x2)) (vx_cwSW 4 hts hT rfl rfl rfl ⟨by decide, by decide, by decide +kernel⟩ ⟨by decide, by decide⟩) hP rfl rfl g3.1 rfl (Nat.le_of_ble_eq_true rfl) dL_law_370 fits
  intro T0 hT0 X0
  rcases run T0 hT0 X0 with ⟨v, st₀, t, T', L', z0, X', hL, z1, z2, ⟨⟨r, I', J', R', hv, hnr, ⟨eI, eR, hq⟩, -, -, -, hWt⟩, hF⟩, st⟩ | ⟨q, st₀, t, T', L', E, ce, -, -, -, -, -, hfalse, -⟩
  · cases hv
    rw [eI, eR] at hWt
    obtain ⟨f1, f2, f3⟩ := vx_keep z0 z1 g2 (fun _ _ h => h) (fun _ h => h) hL hF
    have hWt' : am_Wd base b cy D I J' (gUp R) T'.heap := by rw [z1]; exact hWt
    rcases hq with ⟨rfl, rfl, hb1⟩ | ⟨rfl, rfl, ⟨k, a1, a2⟩, hb1⟩ | ⟨k, c', a1, a2, a3, a4, rfl, rfl⟩
    · obtain ⟨t2, y1, y2⟩ := h1 hb1 T'.heap (locs ++ L') (cells + 1) (slots + 8) ls hWt' f3 g3 hct T' rfl X'
      exact ⟨t2, st t2 y1, y2⟩
    · obtain ⟨t2, y1, y2⟩ := h2 k a1 a2 hb1 T'.heap (locs ++ L') (cells + 1) (slots + 8) ls hWt' f3 g3 hct T' rfl X'
      exact ⟨t2, st t2 y1, y2⟩
    · obtain ⟨t2, y1, y2⟩ := h0 k a1 a2 c' a3 a4 T'.heap (locs ++ L') (cells + 1) (slots + 8) ls hWt' f3 g3 hct T' rfl X'
      exact ⟨t2, st t2 y1, y2⟩
  · exact hfalse.elim
end LS
