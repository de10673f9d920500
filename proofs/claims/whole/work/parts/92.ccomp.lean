/-! the class's Parser: a LINE, the TEXT -/
section CH
variable {d : Nat} {I : HI} {J : HJ} {R : HR} {B : Nat → Nat} {n p : Nat} {P : SP}
theorem flt_l {k : Nat} {P : SP} {v : Nat} : flt k (up P 0 11 v) = flt k P := by
  simp only [flt]
  rw [up_nk (by decide)]
theorem t_cline {Q : Bool → HI → Prop} (hs : Stat R) (hp : isX5 p) (hR : R 2 1 = some p) (hn : n ≤ 900) (hB : ∀ j, B j < 256) (h1 : okL n P) (h0 : ¬ P 0 0 = 0) (hS : cS I p n B P) (h : rC Q I p n B (lnS B n P)) : Wc fb (d + 31) M_X4_line [.ref 2] I J R Q := by
  refine ⟨Nat.le_of_ble_eq_true rfl, fun K hK => ?_⟩
  have hc := h1.1.2.2.1
  have hl0 : up P 0 11 1 0 0 = P 0 0 := up_nk (by decide)
  have hl1 : up P 0 11 1 0 11 = 1 := up_s
  have hL := late_ok h1
  have hSl : cS (up I 2 7 (b2i true)) p n B (up P 0 11 1) := cS_2f (k := 7) (j := 11) (v := 1) hp (Or.inr ⟨rfl, rfl⟩) hS
  have fl0 : ∀ x, frP p I (up I 2 7 x) := fun x => frP_u (Or.inl (by decide)) frP_rf
  have w81 : ∀ {w : Nat}, w < 531441 → ¬ nI (cv w) = (1451059 : Int32) := by
    intro w hw q
    have h1 := cv_lt 4 w (by omega)
    have := (nI_eq (a := cv w) (b := 1451059) (by omega) (by decide)).mp q
    omega
  -- no LINE begins so
  have bad : rC Q I p n B (flt 1 P) → ∀ x1 : Int32, isNm P = false → ¬ x1 = 294 → ¬ x1 = 302 → ¬ x1 = 5572 → ¬ x1 = 16052 → ¬ x1 = 18935 → ¬ x1 = 176741 → ¬ x1 = 409072 → ¬ x1 = 1451059 → K 48 [(0, .ref 2), (1, .int x1)] [.int (b2i false)] I J R := by
    intro h x1 hnm n1 n2 n3 n4 n5 n6 n7 n8
    refine g_X4_line_48 hK hs ⟨fun _ => ⟨fun w => absurd w (by decide), fun _ => ?_⟩, fun w => absurd w (by decide)⟩
    refine g_X4_line_76 hK hs ⟨fun w => absurd w n1, fun _ => ⟨fun w => absurd w n2, fun _ => ⟨fun w => absurd w n3, fun _ => ⟨fun w => absurd w n4, fun _ => ⟨fun w => absurd w n5, fun _ => ⟨fun w => absurd w n6, fun _ => ⟨fun w => absurd w n7, fun _ => ⟨fun w => absurd w n8, fun _ => ?_⟩⟩⟩⟩⟩⟩⟩⟩
    refine t_isName hs hL.1 hSl ?_
    have : isNm (up P 0 11 1) = false := by
      simp only [isNm]
      rw [up_nk (by decide), up_nk (by decide)]
      exact hnm
    rw [this]
    refine ⟨fun _ => t_fl (k := 1) hs hSl ?_, fun w => absurd w (by decide)⟩
    rw [flt_l]
    exact rC_mono (fl0 _) h
  obtain ⟨_, _, _, hct⟩ := hS.1
  have first : ∀ x1 : Int32, ∀ r : RS, rC Q I p n B (ltS P r) → (P 0 11 = 0 → rC Q (up I 2 7 (b2i false)) p n B r → cS (up I 2 7 (b2i false)) p n B P → K 76 [(0, .ref 2), (1, .int x1)] [.int (b2i false), .ref 2] I J R) → K 48 [(0, .ref 2), (1, .int x1)] [.int (b2i true)] I J R := by
    intro x1 r h hgo
    refine g_X4_line_48 hK hs ⟨fun w => absurd w (by decide), fun _ => ?_⟩
    have c7 : (I 2 7 = (0 : Int32)) ↔ P 0 11 = 0 := by rw [hS.2.2.2.1.2.1]; exact nI_eq (b := 0) (by omega) (by decide)
    rw [c7]
    simp only [ltS] at h
    refine ⟨fun z => ⟨fun _ => ?_, fun w => absurd w (by decide)⟩, fun z => ?_⟩
    · rw [if_pos z] at h
      have hS0 := cS_2f (k := 7) (j := 11) (v := 0) hp (Or.inr ⟨rfl, rfl⟩) hS
      rw [up_same z] at hS0
      exact hgo z (rC_mono (fl0 _) h) hS0
    · rw [if_neg z] at h
      exact t_fl (k := 1) hs hS h
  simp only [lnS] at h
  refine g_X4_line_0 hK hs ?_
  rcases hct with ⟨k, a⟩ | ⟨k, a, b, c⟩ | ⟨k, a, b⟩ | ⟨k, a, b⟩ | ⟨k, a, b⟩ | ⟨k, a, b, c, e⟩ | ⟨k, a, b, c⟩
  · exact absurd k h0
  · rw [if_neg (by omega), if_pos k] at h
    have hw := h1.1.1.2.2.2.2.1 k
    obtain ⟨o1, o2, o3, o4, o5, o6, o7⟩ := own_cv hw
    refine ⟨fun w => absurd a w, fun _ => ?_⟩
    rw [b, o2, o5]
    refine ⟨fun z => ?_, fun z1 => ⟨fun z => ?_, fun z2 => ⟨fun _ => ?_, fun w => absurd w (w81 hw)⟩⟩⟩
    · rw [if_pos z] at h
      refine first _ _ h (fun q1 q2 q3 => ?_)
      refine g_X4_line_76 hK hs ?_
      rw [o1, o2]
      exact ⟨fun w => by omega, fun _ => ⟨fun _ => t_cin (d := d + 27) hs hp hR hn hB h1 q1 q3 q2, fun w => absurd z w⟩⟩
    · rw [if_neg z1, if_pos z] at h
      refine first _ _ h (fun q1 q2 q3 => ?_)
      refine g_X4_line_76 hK hs ?_
      rw [o1, o2, o3, o4, o5]
      exact ⟨fun w => by omega, fun _ => ⟨fun w => by omega, fun _ => ⟨fun w => by omega, fun _ => ⟨fun w => by omega, fun _ => ⟨fun _ => t_crow (d := d + 26) hs hp hR hn hB h1.1 q3 q2, fun w => absurd z w⟩⟩⟩⟩⟩
    · rw [if_neg z1, if_neg z2] at h
      refine g_X4_line_48 hK hs ⟨fun _ => ⟨fun w => absurd w (by decide), fun _ => ?_⟩, fun w => absurd w (by decide)⟩
      refine g_X4_line_76 hK hs ?_
      have hm : ∀ {r : RS}, rC Q I p n B r → rC Q (up I 2 7 (b2i true)) p n B r := fun h => rC_mono (fl0 _) h
      rw [o1, o2, o3, o4, o5, o6, o7]
      refine ⟨fun y => ?_, fun y1 => ⟨fun w => absurd w z1, fun _ => ⟨fun y => ?_, fun y2 => ⟨fun y => ?_, fun y3 => ⟨fun w => absurd w z2, fun _ => ⟨fun y => ?_, fun y4 => ⟨fun y => ?_, fun y5 => ⟨fun w => absurd w (w81 hw), fun _ => ?_⟩⟩⟩⟩⟩⟩⟩⟩
      · rw [if_neg (by omega), if_pos y] at h
        exact t_cif (d := d + 1) hs hp hR hn hB hL (by rw [hl0]; exact h0) hSl (hm h)
      · rw [if_neg (by omega), if_neg y1, if_neg (by omega), if_pos y] at h
        exact t_cend (d := d + 28) hs hp hR hn hB hL (by rw [hl0]; exact h0) hSl (hm h)
      · rw [if_neg (by omega), if_neg y1, if_neg (by omega), if_neg y2, if_pos y] at h
        exact t_cout (d := d + 1) hs hp hR hn hB hL (by rw [hl0]; exact h0) hSl (hm h)
      · rw [if_neg (by omega), if_neg y1, if_pos y] at h
        exact t_cels (d := d + 28) hs hp hR hn hB hL (by rw [hl0]; exact h0) hSl (hm h)
      · rw [if_pos y] at h
        exact t_clop (d := d + 27) hs hp hR hn hB hL (by rw [hl0]; exact k) hl1 hSl (hm h)
      · rw [if_neg y5, if_neg y1, if_neg y4, if_neg y2, if_neg y3] at h
        refine t_isName hs hL.1 hSl ?_
        have : isNm (up P 0 11 1) = true := by
          simp only [isNm]
          rw [up_nk (by decide), up_nk (by decide), k, show ownW (P 0 1) = false from decide_eq_false (by omega)]
          rfl
        rw [this]
        exact ⟨fun w => absurd w (by decide), fun _ => t_cas (d := d) hs hp hR hn hB hL (by rw [hl0]; exact k) hl1 hSl (hm h)⟩
  · rw [if_neg (by omega), if_neg (by omega)] at h
    refine ⟨fun _ => bad h 0 (by simp [isNm, k]) (by decide) (by decide) (by decide) (by decide) (by decide) (by decide) (by decide) (by decide), fun w => ?_⟩
    rw [a] at w; exact absurd w (by decide)
  · rw [if_neg (by omega), if_neg (by omega)] at h
    refine ⟨fun _ => bad h 0 (by simp [isNm, k]) (by decide) (by decide) (by decide) (by decide) (by decide) (by decide) (by decide) (by decide), fun w => ?_⟩
    rw [a] at w; exact absurd w (by decide)
  · rw [if_neg (by omega), if_neg (by omega)] at h
    refine ⟨fun _ => bad h 0 (by simp [isNm, k]) (by decide) (by decide) (by decide) (by decide) (by decide) (by decide) (by decide) (by decide), fun w => ?_⟩
    rw [a] at w; exact absurd w (by decide)
  · rw [if_neg (by omega), if_neg (by omega)] at h
    have ne : ∀ k : Nat, 0 < k → k < 1048576 → ¬ I 7 4 = nI k := by
      intro k hk0 hk q
      rw [q, nI_toInt (by omega)] at c
      omega
    have g := bad h (I 7 4) (by simp [isNm, k]) (ne 294 (by decide) (by decide)) (ne 302 (by decide) (by decide)) (ne 5572 (by decide) (by decide)) (ne 16052 (by decide) (by decide)) (ne 18935 (by decide) (by decide)) (ne 176741 (by decide) (by decide)) (ne 409072 (by decide) (by decide)) e
    exact ⟨fun w => absurd a w, fun _ => ⟨fun w => absurd w (ne 302 (by decide) (by decide)), fun _ => ⟨fun w => absurd w (ne 18935 (by decide) (by decide)), fun _ => ⟨fun _ => g, fun w => absurd w e⟩⟩⟩⟩
  · rw [if_pos k] at h
    refine ⟨fun w => absurd a w, fun _ => ?_⟩
    rw [c]
    refine ⟨fun w => absurd w (by decide), fun _ => ⟨fun w => absurd w (by decide), fun _ => ⟨fun w => absurd rfl w, fun _ => ?_⟩⟩⟩
    refine first _ _ h (fun q1 q2 q3 => ?_)
    refine g_X4_line_76 hK hs ?_
    exact ⟨fun w => absurd w (by decide), fun _ => ⟨fun w => absurd w (by decide), fun _ => ⟨fun w => absurd w (by decide), fun _ => ⟨fun w => absurd w (by decide), fun _ => ⟨fun w => absurd w (by decide), fun _ => ⟨fun w => absurd w (by decide), fun _ => ⟨fun w => absurd w (by decide), fun _ => ⟨fun _ => t_cali (d := d + 26) hs hp hR hn hB h1.1 q3 q2, fun w => absurd rfl w⟩⟩⟩⟩⟩⟩⟩⟩
/-- the TEXT is compiled -/
theorem t_ccompile {Q : Bool → HI → HR → Prop} (hs : Stat R) (hp : isX5 p) (hn : n ≤ 900) (hB : ∀ j, B j < 256) (hb : ∀ j, j < n → I 1 j = bI (B j)) (h : rC (fun b I' => Q b I' (up R 2 1 (some p))) I p n B (paS B n)) : Wr fb (d + 32) M_X4_compile [.ref 2, .int (nI n), .ref p] I J R Q := by
  refine ⟨Nat.le_of_ble_eq_true rfl, fun K hK => ?_⟩
  have hs' : Stat (up R 2 1 (some p)) := stat_up hs (by decide +kernel)
  have hR' : (up R 2 1 (some p)) 2 1 = some p := up_s
  have hg' : am_g (up R 2 1 (some p)) = am_g R := by
    simp only [am_g]
    rw [up_na (by decide)]
  have hx := x5_ne hp
  have loop : ∀ (u t : Nat) (P1 : SP) (I1 : HI), t + u = 900 → okL n P1 → 2 * t ≤ P1 0 2 → cS I1 p n B P1 → frP p I I1 → rC (fun b I' => Q b I' (up R 2 1 (some p))) I p n B (lsS B n (u + 1) P1) → K 42 [(0, .ref 2), (3, .int (nI t))] [] I1 J (up R 2 1 (some p)) := by
    intro u
    induction u with
    | zero =>
      intro t P1 I1 ht k1 k2
      have := k1.1.1.1
      have := k1.1.1.2.1
      omega
    | succ u ih =>
      intro t P1 I1 ht k1 k2 hS1 f1 h
      have t2 := k1.1.1.1
      have t3 := k1.1.1.2.1
      have hc := k1.1.2.2.1
      rw [lsS] at h
      refine g_X4_compile_42 (p2 := p) hK hs hs' hg' hp ⟨fun w => absurd w (nI_ge (b := 900) (by omega) (by decide)), fun _ => ?_⟩
      rw [cS_0 hS1]
      have c6 : (I1 2 6 = (0 : Int32)) ↔ P1 0 10 = 0 := by rw [hS1.2.2.2.1.1]; exact nI_eq (b := 0) (by omega) (by decide)
      rw [c6]
      refine ⟨fun z => ?_, fun z => ?_⟩
      · rw [if_pos z] at h
        refine ⟨fun y => ?_, fun y => ?_⟩
        · rw [if_pos y] at h
          exact h I1 hS1 f1
        · rw [if_neg y] at h
          refine t_fl (k := 1) hs' hS1 ?_
          exact fun I2 e1 e2 e3 => ⟨fun _ => h I2 e1 e2 (frP_tr f1 e3), fun w => absurd w (by decide)⟩
      · rw [if_neg z] at h
        refine t_cline (d := d) hs' hp hR' hn hB k1 z hS1 (rC_bd (rC_mono f1 h) (fun P2 I2 e2 hS2 f2 h' => ⟨fun _ => ?_, fun w => absurd w (by decide)⟩) (fun I2 hq => ⟨fun w => absurd w (by decide), fun _ => hq⟩))
        obtain ⟨l1, l2, l3⟩ := lnS_ok k1 hn z e2
        simp only [clo] at h'
        refine t_isSign (c := 59) hs' (by decide) l1.1 hS2 ⟨fun y => ?_, fun y => ?_⟩
        · rw [y, if_pos rfl] at h'
          obtain ⟨m1, m2⟩ := nxt_ok (B := B) l1 y
          refine t_adv hs' hp hn hB l1.1 hS2 (fun I3 hS3 f3 => ⟨p, hR', hp, ?_⟩)
          have i2 : I3 p 2 = nI (P2 0 5) := by rw [hS3.2.2.1.2.1, adv_f (by decide)]
          rw [i2, nI_1, nI_1]
          have hS4 := cS_pf (k := 2) (j := 5) (v := P2 0 5 + 1) hp (Or.inl ⟨rfl, rfl⟩) hS3
          have f14 : frP p I2 (up I3 p 2 (nI (P2 0 5 + 1))) := frP_u (Or.inr (by omega)) (frP_7 f3)
          refine ih (t + 1) _ _ (by omega) m1 (by omega) hS4 (frP_tr f1 (frP_tr f2 f14)) ?_
          cases hl : lsS B n (u + 1) (up (adv B n P2) 0 5 (P2 0 5 + 1)) with
          | ok P9 =>
            rw [e2] at h
            simp only [bd, clo] at h
            rw [y, if_pos rfl, hl] at h
            exact h
          | error e =>
            rw [e2] at h
            simp only [bd, clo] at h
            rw [y, if_pos rfl, hl] at h
            exact h
        · rw [y, if_neg (by decide)] at h'
          exact t_fl (k := 1) hs' hS2 h'
  refine g_X4_compile_0 hK hs hs rfl hp ?_
  refine e_X5_clear hs' hp ?_
  refine e_X6_start hs' ?_
  have key : ∀ (x : Int32), x = nI n → Wc fv (d + 30) M_X6_advance [.ref 7] (up (up (up (up (up (up (up (up (up (up (up (up I p 1 0) p 2 0) p 3 0) p 4 0) p 5 0) p 6 0) 2 6 0) 2 7 0) 2 8 0) 2 9 (-1)) 7 1 x) 7 2 0) J (up R 2 1 (some p)) (fun _ I3 => K 42 [(0, .ref 2), (3, .int 0)] [] I3 J (up R 2 1 (some p))) := by
    intro x hx1
    subst hx1
    have q7 : ∀ c, ¬ c = 7 → ¬ c = 2 → ¬ c = p → up (up (up (up (up (up (up (up (up (up (up (up I p 1 0) p 2 0) p 3 0) p 4 0) p 5 0) p 6 0) 2 6 0) 2 7 0) 2 8 0) 2 9 (-1)) 7 1 (nI n)) 7 2 0 c = I c := fun c h1 h2 h3 => by
      rw [up_ne _ _ _ _ h1, up_ne _ _ _ _ h1, up_ne _ _ _ _ h2, up_ne _ _ _ _ h2, up_ne _ _ _ _ h2, up_ne _ _ _ _ h2, up_ne _ _ _ _ h3, up_ne _ _ _ _ h3, up_ne _ _ _ _ h3, up_ne _ _ _ _ h3, up_ne _ _ _ _ h3, up_ne _ _ _ _ h3]
    have qp : ∀ j, 1 ≤ j → j ≤ 6 → up (up (up (up (up (up (up (up (up (up (up (up I p 1 0) p 2 0) p 3 0) p 4 0) p 5 0) p 6 0) 2 6 0) 2 7 0) 2 8 0) 2 9 (-1)) 7 1 (nI n)) 7 2 0 p j = 0 := by
      intro j h1 h2
      rw [up_na (by omega), up_na (by omega), up_na (by omega), up_na (by omega), up_na (by omega), up_na (by omega)]
      have : j = 1 ∨ j = 2 ∨ j = 3 ∨ j = 4 ∨ j = 5 ∨ j = 6 := by omega
      rcases this with rfl | rfl | rfl | rfl | rfl | rfl <;> simp [up_ap]
    have q2 : up (up (up (up (up (up (up (up (up (up (up (up I p 1 0) p 2 0) p 3 0) p 4 0) p 5 0) p 6 0) 2 6 0) 2 7 0) 2 8 0) 2 9 (-1)) 7 1 (nI n)) 7 2 0 2 6 = 0 ∧ up (up (up (up (up (up (up (up (up (up (up (up I p 1 0) p 2 0) p 3 0) p 4 0) p 5 0) p 6 0) 2 6 0) 2 7 0) 2 8 0) 2 9 (-1)) 7 1 (nI n)) 7 2 0 2 7 = 0 ∧ up (up (up (up (up (up (up (up (up (up (up (up I p 1 0) p 2 0) p 3 0) p 4 0) p 5 0) p 6 0) 2 6 0) 2 7 0) 2 8 0) 2 9 (-1)) 7 1 (nI n)) 7 2 0 2 8 = 0 ∧ up (up (up (up (up (up (up (up (up (up (up (up I p 1 0) p 2 0) p 3 0) p 4 0) p 5 0) p 6 0) 2 6 0) 2 7 0) 2 8 0) 2 9 (-1)) 7 1 (nI n)) 7 2 0 2 9 = -1 := by
      simp [up_ap]
    have q71 : up (up (up (up (up (up (up (up (up (up (up (up I p 1 0) p 2 0) p 3 0) p 4 0) p 5 0) p 6 0) 2 6 0) 2 7 0) 2 8 0) 2 9 (-1)) 7 1 (nI n)) 7 2 0 7 1 = nI n := by simp [up_ap]
    have q72 : up (up (up (up (up (up (up (up (up (up (up (up I p 1 0) p 2 0) p 3 0) p 4 0) p 5 0) p 6 0) 2 6 0) 2 7 0) 2 8 0) 2 9 (-1)) 7 1 (nI n)) 7 2 0 7 2 = nI 0 := by simp [up_ap]; rfl
    generalize up (up (up (up (up (up (up (up (up (up (up (up I p 1 0) p 2 0) p 3 0) p 4 0) p 5 0) p 6 0) 2 6 0) 2 7 0) 2 8 0) 2 9 (-1)) 7 1 (nI n)) 7 2 0 = I2 at q7 qp q2 q71 q72
    have hb2 : ∀ j, j < n → I2 1 j = bI (B j) := by rw [q7 1 (by decide) (by decide) (by omega)]; exact hb
    refine t_advance (p := 0) hs' hn (by omega) q71 q72 hb2 hB (fun I3 f3 g3 => ?_)
    have hS3 : cS I3 p n B (adv B n (fun _ _ => 0)) := by
      refine ⟨scR_cg (fun j hj => adv_t hj) g3, ?_, ?_, ?_, ?_, ?_, ?_, ?_⟩
      · rw [f3 1 (by decide)]; exact hb2
      · rw [f3 p (by omega), adv_f (by decide), adv_f (by decide), adv_f (by decide), adv_f (by decide), adv_f (by decide), adv_f (by decide)]
        exact ⟨qp 1 (by decide) (by decide), qp 2 (by decide) (by decide), qp 3 (by decide) (by decide), qp 4 (by decide) (by decide), qp 5 (by decide) (by decide), qp 6 (by decide) (by decide)⟩
      · rw [f3 2 (by decide), adv_f (by decide), adv_f (by decide)]; exact q2
      · rw [adv_f (by decide)]; exact fun i hi => absurd hi (Nat.not_lt_zero _)
      · rw [adv_f (by decide)]; exact fun i hi => absurd hi (Nat.not_lt_zero _)
      · rw [adv_f (by decide)]; exact fun i hi => absurd hi (Nat.not_lt_zero _)
      · rw [adv_f (by decide)]; exact fun i hi => absurd hi (Nat.not_lt_zero _)
    exact loop 900 0 _ I3 (by omega) beg_ok (by omega) hS3 (fun a a1 a2 => (f3 a (by omega)).trans (q7 a (by omega) (by omega) (by omega))) h
  have cl : ((900 : Int32) ≤ nI n) ↔ 900 ≤ n := nI_leI (a := 900) (by decide) (by omega)
  rw [cl]
  refine ⟨fun z => key _ ?_, fun _ => key _ rfl⟩
  have : n = 900 := by omega
  rw [this]
  rfl
end CH
