/-! the class's Parser: brackets, factors -/
def brS (B : Nat → Nat) (n : Nat) (o c : Nat) (X : SP → RS) (P : SP) : RS := clo o P (fun P1 => bd (X P1) (fun P2 => clo c P2 (fun P2 => .ok (adv B n P2))))
theorem clo_f {B : Nat → Nat} {n c c' : Nat} {P : SP} {X f : SP → RS} : clo c P (fun P1 => bd (X P1) (fun P2 => clo c' P2 (fun P2 => f (adv B n P2)))) = bd (brS B n c c' X P) f := by
  simp only [brS, clo]
  split
  · cases X P with
    | ok P1 =>
      simp only [bd]
      split <;> rfl
    | error e => rfl
  · rfl
theorem br_grw {B : Nat → Nat} {n b o c : Nat} {X : SP → RS} {P P3 : SP} (hX : XOK n b X) (h1 : okB n P) (h2 : cdP P) (h3 : dN P ≤ b) (h : brS B n o c X P = .ok P3) : grw n (dN P + 1) 2 P P3 := by
  obtain ⟨s1, h⟩ := clo_ok h
  obtain ⟨P2, e2, h⟩ := bd_ok h
  obtain ⟨s2, h⟩ := clo_ok h
  cases h
  have g2 := hX _ _ h1 h2 (isS_0 s1) h3 e2
  have g3 := adv_grw (B := B) g2.1.1 g2.1.2 (isS_0 s2)
  rw [g2.2.2.2.2.2] at g3
  exact grw_tr g2 g3
theorem cS_2 {I : HI} {p n : Nat} {B : Nat → Nat} {P : SP} (hS : cS I p n B P) : (I 7 3 = 2 ↔ P 0 0 = 2) ∧ (P 0 0 = 2 → I 7 4 = nI (P 0 1)) := by
  obtain ⟨_, _, _, hc⟩ := hS.1
  rcases hc with ⟨k, a⟩ | ⟨k, a, b, c⟩ | ⟨k, a, b⟩ | ⟨k, a, b⟩ | ⟨k, a, b⟩ | ⟨k, a, b, c⟩ | ⟨k, a, b, c⟩
  · rw [a, k]; exact ⟨by decide, fun h => absurd h (by decide)⟩
  · rw [a, k]; exact ⟨by decide, fun h => absurd h (by decide)⟩
  · rw [a, k]; exact ⟨by decide, fun _ => b⟩
  · rw [a, k]; exact ⟨by decide, fun h => absurd h (by decide)⟩
  · rw [a, k]; exact ⟨by decide, fun h => absurd h (by decide)⟩
  · rw [a, k]; exact ⟨by decide, fun h => absurd h (by decide)⟩
  · rw [a, k]; exact ⟨by decide, fun h => absurd h (by decide)⟩
section CE
variable {d : Nat} {J : HJ} {R : HR} {B : Nat → Nat} {n p b dep : Nat} {F X : SP → RS}
theorem t_cbrk {o c : Nat} (hs : Stat R) (hp : isX5 p) (hn : n ≤ 900) (hB : ∀ j, B j < 256) (hd8 : dep ≤ 8) (ho : mkB o = true) (hc : mkB c = true)
    (hEok : ∀ P P', okB n P → cdP P → dN P ≤ b → exS B n F P = .ok P' → okB n P')
    (hE : ∀ (P : SP) (I : HI) (Q : Bool → HI → Prop), okB n P → cdP P → dN P ≤ b → cS I p n B P → rC Q I p n B (exS B n F P) → Wc fb (d + 1) M_X4_expression [.ref 2, .int (nI dep)] I J R Q)
    {P : SP} {I : HI} {Q : Bool → HI → Prop} (h1 : okB n P) (h2 : cdP P) (h3 : dN P ≤ b) (hS : cS I p n B P) (h : rC Q I p n B (brS B n o c (fun P => exS B n F (adv B n P)) P)) : Wc fb (d + 2) M_X4_bracket [.ref 2, .int (nI o), .int (nI c), .int (nI dep)] I J R Q := by
  refine e_X4_bracket hs ?_
  simp only [brS, clo] at h
  refine t_isSign hs ho h1 hS ⟨fun z => ?_, fun z => ?_⟩
  · rw [z, if_pos rfl] at h
    refine ⟨fun _ => ?_, fun z2 => absurd (nI_le (b := 8) hd8 (by decide)) z2⟩
    refine t_adv hs hp hn hB h1 hS (fun I1 hS1 f1 => ?_)
    have a1 := adv_okB (B := B) h1
    have a2 := adv_cd (B := B) (n := n) h2
    refine hE _ I1 _ a1 a2 (by rw [adv_dN]; exact h3) hS1 (rC_bd (rC_mono (frP_7 f1) h) (fun P2 I2 e2 hS2 f2 h' => ⟨fun _ => ?_, fun z => absurd z (by decide)⟩) (fun I2 hq => ⟨fun z => absurd z (by decide), fun _ => hq⟩))
    have a3 := hEok _ _ a1 a2 (by rw [adv_dN]; exact h3) e2
    refine t_isSign hs hc a3 hS2 ⟨fun z => ?_, fun z => ?_⟩
    · rw [z, if_pos rfl] at h'
      exact t_adv hs hp hn hB a3 hS2 (fun I3 hS3 f3 => h' I3 hS3 (frP_7 f3))
    · rw [z, if_neg (by decide)] at h'
      exact t_fl hs hS2 h'
  · rw [z, if_neg (by decide)] at h
    exact t_fl hs hS h
theorem t_cbrk9 {o c : Nat} (hs : Stat R) (ho : mkB o = true) {P : SP} {I : HI} {Q : Bool → HI → Prop} (h1 : okB n P) (hS : cS I p n B P) (h : rC Q I p n B (brS B n o c (fun P => flt 2 P) P)) : Wc fb (d + 2) M_X4_bracket [.ref 2, .int (nI o), .int (nI c), .int (nI (8 + 1))] I J R Q := by
  refine e_X4_bracket hs ?_
  simp only [brS, clo] at h
  refine t_isSign hs ho h1 hS ⟨fun z => ?_, fun z => ?_⟩
  · rw [z, if_pos rfl] at h
    exact ⟨fun z2 => absurd z2 (by decide), fun _ => t_fl hs hS h⟩
  · rw [z, if_neg (by decide)] at h
    exact t_fl hs hS h
theorem t_cfac (hs : Stat R) (hp : isX5 p) (hR : R 2 1 = some p) (hn : n ≤ 900) (hB : ∀ j, B j < 256) (hX : XOK n b X)
    (hBr : ∀ (o c : Nat) (P : SP) (I : HI) (Q : Bool → HI → Prop), mkB o = true → mkB c = true → okB n P → cdP P → dN P ≤ b → cS I p n B P → rC Q I p n B (brS B n o c X P) → Wc fb (d + 2) M_X4_bracket [.ref 2, .int (nI o), .int (nI c), .int (nI (dep + 1))] I J R Q)
    {P : SP} {I : HI} {Q : Bool → HI → Prop} (h1 : okB n P) (h2 : cdP P) (h3 : dN P ≤ b) (hS : cS I p n B P) (h : rC Q I p n B (facG B n X P)) : Wc fb (d + 3) M_X4_factor [.ref 2, .int (nI dep)] I J R Q := by
  refine ⟨Nat.le_of_ble_eq_true rfl, fun K hK => ?_⟩
  have t2 := h1.1.1
  have t3 := h1.1.2.1
  have sl := h1.2.1.1
  have hc := h1.2.2.1
  simp only [facG] at h
  refine g_X4_factor_0 hK hs ?_
  rw [(cS_2 hS).1, nI_1]
  have last : ∀ (r v : Int32) (op a : Nat) (P3 : SP) (I3 : HI), ((op = 2 ∧ ¬ r = -1 ∧ r = nI a) ∨ (op = 1 ∧ r = -1 ∧ v = nI a)) → a < 100000 → okB n P3 → P3 0 4 + 1 ≤ P3 0 3 → cS I3 p n B P3 → rC Q I3 p n B (.ok (em op a 0 P3)) → K 146 [(0, .ref 2), (2, .int r), (3, .int v)] [] I3 J R := by
    intro r v op a P3 I3 hop ha o1 o2 hS3 hq
    refine g_X4_factor_146 hK hs ⟨p, hR, hp, ?_⟩
    rcases hop with ⟨e, e1, e2⟩ | ⟨e, e1, e2⟩
    · subst e
      refine ⟨fun _ => ⟨fun _ => ?_, fun z => absurd z e1⟩, fun z => absurd z e1⟩
      rw [e2]
      exact t_cem (op := 2) (m := 0) hs hp hn o1 o2 hS3 (by decide) (by decide) ha hq
    · subst e
      refine ⟨fun z => absurd e1 z, fun _ => ⟨fun z => absurd e1 z, fun _ => ?_⟩⟩
      rw [e2]
      exact t_cem (op := 1) (m := 0) hs hp hn o1 o2 hS3 (by decide) (by decide) ha hq
  refine ⟨fun z => ?_, fun z => ?_⟩
  · rw [if_neg z] at h
    refine t_isName hs h1 hS ⟨fun y => ?_, fun y => ?_⟩
    · rw [y, if_pos rfl] at h
      have k1 := isNm_t y
      refine t_rowOf hs hp hR h1 hS k1 ?_
      have a1 := adv_okB (B := B) h1
      have ag := adv_ge (B := B) h1
      have ak := h1.1.2.2.1 (show ¬ P 0 0 = 0 by omega)
      have a1t := a1.1.1
      cases hr : rwO P with
      | some r =>
        rw [hr] at h
        simp only at h
        rw [clo_f (f := fun P3 => .ok (em 2 r 0 P3))] at h
        have hr8 := (rwO_s hr).1
        have nr : ¬ nI r = -1 := nI_m1 (by omega)
        have fin : ∀ v : Int32, (¬ oI (some r) = -1 → Wc fv (d + 2) M_X6_advance [.ref 7] I J R (fun _ I9 => ((oI (some r) = -1 → K 146 [(0, .ref 2), (2, .int (oI (some r))), (3, .int v)] [] I9 J R) ∧ (¬ oI (some r) = -1 → Wc fb (d + 2) M_X4_bracket [.ref 2, .int 91, .int 93, .int (nI (dep + 1))] I9 J R (fun b11 I12 => ((b11 = true → K 146 [(0, .ref 2), (2, .int (oI (some r))), (3, .int v)] [] I12 J R) ∧ (b11 = false → Q false I12))))))) := by
          intro v _
          refine t_adv hs hp hn hB h1 hS (fun I1 hS1 f1 => ⟨fun w => absurd w nr, fun _ => ?_⟩)
          have a2 := adv_cd (B := B) (n := n) h2
          have ad : dN (adv B n P) ≤ b := by rw [adv_dN]; exact h3
          refine hBr 91 93 (adv B n P) I1 _ (by decide) (by decide) a1 a2 ad hS1 (rC_bd (rC_mono (frP_7 f1) h) (fun P3 I3 e3 hS3 f3 h' => ⟨fun _ => ?_, fun w => absurd w (by decide)⟩) (fun I3 hq => ⟨fun w => absurd w (by decide), fun _ => hq⟩))
          have g := br_grw hX a1 a2 ad e3
          have g3 := g.2.2.1
          have g4 := g.1.1.1.1
          have g5 := a1.2.1.1
          exact last _ v 2 r P3 I3 (Or.inl ⟨rfl, nr, rfl⟩) (by omega) g.1.1 (by omega) hS3 h'
        refine t_variableOf (y := false) hs hp hR h1 hS k1 (fun v hv => ?_) (fun hv _ => ?_) (fun _ w => absurd w (by decide))
        · exact ⟨fin (nI v), fun w => absurd w nr⟩
        · exact ⟨fin (-1), fun w => absurd w nr⟩
      | none =>
        rw [hr] at h
        simp only at h
        refine t_variableOf (y := false) hs hp hR h1 hS k1 (fun v hv => ?_) (fun hv _ => ?_) (fun _ w => absurd w (by decide))
        · rw [hv] at h
          simp only at h
          have hv8 := (vrO_s hv).1
          refine ⟨fun w => absurd rfl w, fun _ => ⟨fun _ => ?_, fun w => absurd w (nI_m1 (by omega))⟩⟩
          refine t_adv hs hp hn hB h1 hS (fun I1 hS1 f1 => ⟨fun _ => ?_, fun w => absurd rfl w⟩)
          exact last (-1) (nI v) 1 v (adv B n P) I1 (Or.inr ⟨rfl, rfl, rfl⟩) (by omega) a1 (by rw [adv_f (by decide)]; omega) hS1 (rC_mono (frP_7 f1) h)
        · rw [hv] at h
          simp only at h
          exact ⟨fun w => absurd rfl w, fun _ => ⟨fun w => absurd rfl w, fun _ => t_fl (k := 1) hs hS h⟩⟩
    · rw [y, if_neg (by decide)] at h
      exact hBr 40 41 P I Q (by decide) (by decide) h1 h2 h3 hS h
  · rw [if_pos z] at h
    have hv := h1.1.2.2.2.1 z
    rw [(cS_2 hS).2 z]
    have cl : (nI (P 0 1) ≤ (9999 : Int32)) ↔ P 0 1 ≤ 9999 := nI_leI (b := 9999) (by omega) (by decide)
    rw [cl]
    have ak := h1.1.2.2.1 (show ¬ P 0 0 = 0 by omega)
    refine ⟨fun y => ⟨p, hR, hp, ?_⟩, fun y => ?_⟩
    · rw [if_pos y] at h
      refine t_cem (op := 0) (m := 0) hs hp hn h1 (by omega) hS (by decide) (by decide) (by omega) (fun I1 hS1 f1 => ?_)
      have h1' : okB n (em 0 (P 0 1) 0 P) ∨ True := Or.inr trivial
      -- advance reads the scanner alone
      obtain ⟨s1, s2, s3, s4, s5, s6, s7, s8⟩ := id hS1
      have e3 : em 0 (P 0 1) 0 P 0 3 = P 0 3 := em_0 (by decide)
      refine t_advance (p := P 0 3) hs hn t3 s1.1 (by rw [s1.2.1, e3]) s2 hB (fun I2 f2 g2 => h I2 ⟨scR_cg (fun j hj => by rw [adv_t hj, e3]) g2, ?_, ?_, ?_, ?_, ?_, ?_, ?_⟩ (frP_tr f1 (frP_7 f2)))
      · rw [f2 1 (by decide)]; exact s2
      · rw [f2 p (by rcases hp with rfl | rfl <;> decide), adv_f (by decide), adv_f (by decide), adv_f (by decide), adv_f (by decide), adv_f (by decide), adv_f (by decide)]; exact s3
      · rw [f2 2 (by decide), adv_f (by decide), adv_f (by decide)]; exact s4
      · rw [f2 (p + 1) (by rcases hp with rfl | rfl <;> decide), adv_f (by decide), adv_c (by decide), adv_c (by decide), adv_c (by decide)]; exact s5
      · rw [f2 (p + 2) (by rcases hp with rfl | rfl <;> decide), f2 (p + 3) (by rcases hp with rfl | rfl <;> decide), f2 4 (by decide), adv_f (by decide), adv_c (by decide), adv_c (by decide), adv_c (by decide)]; exact s6
      · rw [f2 3 (by decide), adv_f (by decide), adv_c (by decide)]; exact s7
      · rw [f2 5 (by decide), f2 6 (by decide), adv_f (by decide), adv_c (by decide), adv_c (by decide)]; exact s8
    · rw [if_neg y] at h
      exact t_fl (k := 2) hs hS h
/-- factors and E at every depth -/
theorem t_cfacS (hs : Stat R) (hp : isX5 p) (hR : R 2 1 = some p) (hn : n ≤ 900) (hB : ∀ j, B j < 256) : ∀ (e : Nat), e ≤ 8 → ∀ (P : SP) (I : HI) (Q : Bool → HI → Prop), okB n P → cdP P → dN P ≤ 19 - 2 * e → cS I p n B P → rC Q I p n B (facS B n e P) → Wc fb (d + 3 * e + 3) M_X4_factor [.ref 2, .int (nI (8 - e))] I J R Q
  | 0, _ => fun P I Q h1 h2 h3 hS h => t_cfac hs hp hR hn hB (X := fun P => flt 2 P) (b := 19) (fun P P' _ _ _ _ h => by simp [flt] at h) (fun o c P I Q ho _ k1 _ _ k4 k5 => t_cbrk9 hs ho k1 k4 k5) h1 h2 h3 hS h
  | e + 1, he => by
    intro P I Q h1 h2 h3 hS h
    have ih := t_cfacS hs hp hR hn hB e (by omega)
    refine t_cfac (d := d + 3 * (e + 1)) hs hp hR hn hB (X := fun P => exS B n (facS B n e) (adv B n P)) (b := 19 - 2 * (e + 1)) (xs_ok (by omega)) ?_ h1 h2 h3 hS h
    intro o c P I Q ho hc k1 k2 k3 k4 k5
    rw [show 8 - (e + 1) + 1 = 8 - e by omega]
    refine t_cbrk (d := d + 3 * (e + 1)) (b := 17 - 2 * e) hs hp hn hB (by omega) ho hc (fun P P' q1 q2 q3 q4 => (exS_ok (fac_ok e (by omega)) (by omega) q1 q2 (by omega) q4).1.1) ?_ k1 k2 (by omega) k4 k5
    intro P I Q q1 q2 q3 q4 q5
    exact t_cexpr (d := d + 3 * e + 2) hs hp hR hn hB (fac_ok e (by omega)) (fac_pr e (by omega)) (by omega) ih q1 q2 (by omega) q4 q5
/-- an E that begins with no open bracket -/
theorem t_cE (hs : Stat R) (hp : isX5 p) (hR : R 2 1 = some p) (hn : n ≤ 900) (hB : ∀ j, B j < 256) {P : SP} {I : HI} {Q : Bool → HI → Prop} (h1 : okB n P) (h2 : cdP P) (h3 : dN P ≤ 1) (hS : cS I p n B P) (h : rC Q I p n B (eS B n P)) : Wc fb (d + 28) M_X4_expression [.ref 2, .int 0] I J R Q := t_cexpr (dep := 0) (d := d + 26) hs hp hR hn hB (fac_ok 8 (by omega)) (fac_pr 8 (by omega)) (by omega) (t_cfacS hs hp hR hn hB 8 (by omega)) h1 h2 (by omega) hS h
end CE
