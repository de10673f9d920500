/-! degree, bends: the reference -/
section BS
variable {d : Nat} {I I1 : HI} {J J1 : HJ} {R : HR} {G T : SP} {D : Nat → Nat} {N : Nat → List Nat} {inp : Nat → Nat} {x1 x2 x3 : Int32}
theorem t_degreeOf {f : Nat → Nat} {Q : Int32 → HI → HJ → Prop} (hs : Stat R) (hb : ∀ j, f j < 1000000007) (hA : rL J 116 f 11) (h : ∀ J', (∀ c, ¬ c = 116 → J' c = J c) → Q (dgF 9 0 f) I J') : Wd fi (d + 2) M_X12_degreeOf [.ref 80] I J R Q := by
  refine ⟨Nat.le_of_ble_eq_true rfl, fun K hK => ?_⟩
  have outer : ∀ (m n : Nat) (f : Nat → Nat) (J1 : HJ), n + m = 9 → (∀ j, f j < 1000000007) → (∀ c, ¬ c = 116 → J1 c = J c) → rL J1 116 f 11 → (∀ J', (∀ c, ¬ c = 116 → J' c = J c) → Q (dgF m n f) I J') → K 2 [(0, .ref 80), (1, .int (nI n))] [] I J1 R := by
    intro m
    induction m with
    | zero =>
      intro n f J1 hnm hfb f1 f2 hq
      have : n = 9 := by omega
      subst this
      exact g_X12_degreeOf_2 hK hs ⟨fun _ => hq J1 f1, fun z => absurd (by decide) z⟩
    | succ m ih =>
      intro n f J1 hnm hfb f1 f2 hq
      refine g_X12_degreeOf_2 hK hs ⟨fun z => absurd z (nI_nlt (a := 8) (by omega) (by omega)), fun _ => ?_⟩
      have loop : ∀ (l c : Nat) (J2 : HJ), c + l = 10 - n → (∀ c, ¬ c = 116 → J2 c = J c) → rL J2 116 (dfW f c) 11 → K 12 [(0, .ref 80), (1, .int (nI n)), (2, .int (b2i (allB (fun j => decide (dfN f j = 0)) c))), (3, .int (nI c))] [] I J2 R := by
        intro l
        induction l with
        | zero =>
          intro c J2 hcl e1 e2
          have : c = 10 - n := by omega
          subst this
          refine g_X12_degreeOf_12 hK hs ?_
          rw [show (10 : Int32) - nI n = nI (10 - n) from pk_sub (a := 10) (by omega)]
          simp only [dgF] at hq
          refine ⟨fun _ => ⟨fun z => ?_, fun z => ?_⟩, fun z => absurd (nI_le (Nat.le_refl _) (by omega)) z⟩
          · rw [z, if_neg (by decide)] at hq
            rw [nI_1]
            exact ih (n + 1) _ J2 (by omega) (dfW_lt hfb) e1 e2 hq
          · rw [z, if_pos rfl] at hq
            exact hq J2 e1
        | succ l ihl =>
          intro c J2 hcl e1 e2
          refine g_X12_degreeOf_12 hK hs ?_
          rw [show (10 : Int32) - nI n = nI (10 - n) from pk_sub (a := 10) (by omega), nI_1 c]
          refine ⟨fun z => absurd z (nI_ge (by omega) (by omega)), fun _ => ⟨c + 1, rfl, by omega, c, rfl, by omega, ?_⟩⟩
          have q1 : dfW f c (c + 1) = f (c + 1) := if_neg (by omega)
          have q2 : dfW f c c = f c := if_neg (by omega)
          rw [e2 (c + 1) (by omega), e2 c (by omega), q1, q2]
          have l1 := hfb (c + 1)
          have l2 := hfb c
          refine t_left hs (by rw [lsub l1 l2]; omega) (by rw [lsub l1 l2]; omega) ?_
          rw [lsub l1 l2, zP_sub _ _ (by omega)]
          have nx := ihl (c + 1) (up J2 116 c (lN (dfN f c))) (by omega) (fun a ha => (up_ne _ _ _ _ ha).trans (e1 a ha)) (by
            intro j hj
            by_cases hjc : j = c
            · subst hjc
              rw [up_s]
              simp only [dfW]
              rw [if_pos (by omega)]
            · rw [up_nk hjc, e2 j hj]
              simp only [dfW]
              by_cases hl : j < c
              · rw [if_pos hl, if_pos (by omega)]
              · rw [if_neg hl, if_neg (by omega)])
          simp only [allB] at nx
          have cz : (lN (sP (f (c + 1)) (f c)) = (0 : Int64)) ↔ dfN f c = 0 := lN_eq (b := 0) (by have := sP_lt (f (c + 1)) (f c); omega) (by decide)
          rw [cz]
          refine ⟨fun z => ?_, fun z => ⟨fun y => ?_, fun y => ?_⟩⟩
          · rw [z, Bool.false_and] at nx
            exact nx
          · rw [z, decide_eq_false y, Bool.and_false] at nx
            exact nx
          · rw [z, decide_eq_true y, Bool.and_true] at nx
            exact nx
      refine loop (10 - n) 0 J1 (by omega) f1 (fun j hj => ?_)
      rw [f2 j hj]
      simp only [dfW]
      rw [if_neg (by omega)]
  exact g_X12_degreeOf_0 hK hs (outer 9 0 f J rfl hb (fun _ _ => rfl) hA h)
theorem m_degree {Q : Int32 → HI → HJ → Prop} (hw : wfG G D N) (hT : T = theRun G inp) (hr : rQ I J R G T) (hJ : ∀ j, j < 4 → J 91 j = lN (inp j)) (hib : ∀ j, j < 4 → inp j < 1000000007) (h : ∀ I' J', rQ I' J' R G T → frB I I' J J' → J' 91 = J 91 → Q (degreeV G T inp x1 x2) I' J') : Wd fi (d + 6) M_X12_degree [.ref 80, .int x1, .int x2] I J R Q := by
  refine ⟨Nat.le_of_ble_eq_true rfl, fun K hK => ?_⟩
  have hs := hr.1
  have h4 := hw.2.2.2.2.2.1
  have hF : finT G T := by rw [hT]; exact theRun_fin hw (fun j hj => hib j (by omega))
  have h20 := hF.1.2.2.2.2.1
  have hr0 := rQ_fr (frA_0 (I := I) (J := J)) hr
  have h0 := h _ _ hr0 frB_0 rfl
  refine g_X12_degree_0 hK hs ?_
  simp only [degreeV] at h h0
  refine t_isOut hs hF hr0.2.2.1 ⟨fun hb => ?_, fun hb => ?_⟩
  · rw [hb, if_neg (by decide)] at h0
    exact h0
  · rw [hb, if_pos rfl] at h h0
    obtain ⟨k, ck, c0, c2⟩ := in_ex (by omega) hb
    refine t_isInput hs h4 hr0.2.1.2.2.1 ⟨fun hi => ?_, fun hi => ?_⟩
    · rw [hi, if_pos rfl] at h h0
      obtain ⟨i, ci, c02, c22⟩ := in_ex (by omega) hi
      rw [c2, c22] at h
      refine ⟨i, ci, by omega, ?_⟩
      rw [hJ i (by omega), ck, ci]
      have hif := hib i (by omega)
      have loop : ∀ (m c : Nat) (I1 : HI) (J1 : HJ), c + m = 11 → frB I I1 J J1 → (∀ j, ¬ j = i → J1 91 j = J 91 j) → (∀ j, j < c → J1 116 j = lN (if k < theRun G (inpW inp i (mP (inp i + j))) 0 3 then theRun G (inpW inp i (mP (inp i + j))) 7 k else 0)) → K 36 [(0, .ref 80), (1, .int (nI k)), (2, .int (nI i)), (3, .long (lN (inp i))), (5, .int (b2i (allB (fun b => decide (k < theRun G (inpW inp i (mP (inp i + b))) 0 3)) c))), (6, .int (nI c))] [] I1 J1 R := by
        intro m
        induction m with
        | zero =>
          intro c I1 J1 hcm f1 f2 f3
          have : c = 11 := by omega
          subst this
          refine g_X12_degree_36 hK hs ⟨fun _ => ⟨i, rfl, by omega, ?_⟩, fun z => absurd (by decide) z⟩
          refine t_runsE hs hw hT hr.2.1 hib hJ f2 (by omega) f1 (fun I3 J3 e1 e2 e3 e4 => ⟨fun z => ?_, fun z => ?_⟩)
          · rw [z, if_neg (by decide)] at h
            exact h I3 J3 e1 e2 e3
          · rw [z, if_pos rfl] at h
            have hal : ∀ j, j < 11 → k < theRun G (inpW inp i (mP (inp i + j))) 0 3 := fun j hj => of_decide_eq_true (allB_o z hj)
            refine t_degreeOf hs (f := fun b => if b < 11 then theRun G (inpW inp i (mP (inp i + b))) 7 k else 0) (fun j => ?_) (fun j hj => ?_) (fun J4 q1 => ?_)
            · show (if j < 11 then _ else _) < _
              split
              · rename_i hj
                have hT' : finT G (theRun G (inpW inp i (mP (inp i + j)))) := theRun_fin hw (fun a ha => inpW_lt hib (mP_lt _) a (by omega))
                exact (hT'.2.2.2.1 k (hal j hj)).1
              · decide
            · show _ = lN (if j < 11 then _ else _)
              rw [if_pos hj, e4.2.2 116 (by decide), up_na (by decide), f3 j hj, if_pos (hal j hj)]
            · refine h I3 J4 ?_ (frB_J (c := 116) (by decide) (by decide) e2 q1) ((q1 91 (by decide)).trans e3)
              have fa : frA I3 I3 J3 J4 := ⟨fun _ _ _ => rfl, fun _ _ => rfl, e2.2.2.1, fun a ha => q1 a (by omega)⟩
              exact rQ_fr fa e1
        | succ m ih =>
          intro c I1 J1 hcm f1 f2 f3
          refine g_X12_degree_36 hK hs ⟨fun z => absurd z (nI_nlt (a := 10) (by omega) (by omega)), fun _ => ?_⟩
          refine t_left hs (by rw [ladd_i hif]; have := nI_toInt (n := c) (by omega); omega) (by rw [ladd_i hif]; have := nI_toInt (n := c) (by omega); omega) ⟨i, rfl, by omega, ?_⟩
          rw [ladd_i hif, nI_toInt (by omega), show (inp i : Int) + (c : Int) = ((inp i + c : Nat) : Int) by omega, zP_nat]
          refine t_runsB hs hw hr.2.1 hib hJ f2 (mP_lt _) f1 (fun I2 J2 g1 g2 g3 g4 g5 => ?_)
          have hJ2 : ∀ j, ¬ j = i → J2 91 j = J 91 j := fun j hj => (g4 j).trans (if_neg hj)
          have h3' := g2.1.2.2.2.2.1
          have nx : ∀ (y : Int64), y = lN (if k < theRun G (inpW inp i (mP (inp i + c))) 0 3 then theRun G (inpW inp i (mP (inp i + c))) 7 k else 0) → K 36 [(0, .ref 80), (1, .int (nI k)), (2, .int (nI i)), (3, .long (lN (inp i))), (5, .int (b2i (allB (fun b => decide (k < theRun G (inpW inp i (mP (inp i + b))) 0 3)) (c + 1)))), (6, .int (nI (c + 1)))] [] I2 (up J2 116 c y) R := by
            intro y hy
            refine ih (c + 1) I2 _ (by omega) (frB_J (c := 116) (by decide) (by decide) g3 (fun a ha => up_ne _ _ _ _ ha)) (fun j hj => (up_na (by decide)).trans (hJ2 j hj)) (fun j hj => ?_)
            by_cases hjc : j = c
            · subst hjc
              rw [up_s]
              exact hy
            · rw [up_nk hjc, g5.2.2 116 (by decide), up_na (by decide)]
              exact f3 j (by omega)
          simp only [allB] at nx
          rw [nI_1]
          have io : ∀ {Q' : Bool → Prop}, Q' (decide (k < theRun G (inpW inp i (mP (inp i + c))) 0 3)) → Wp fb (d + 5) M_X12_isOut [.ref 80, .int (nI k)] I2 J2 R Q' := by
            intro Q' hq
            refine t_isOut hs g2 g1.2.2.1 ?_
            rw [inN_n (by omega)]
            exact hq
          have qJ : k < theRun G (inpW inp i (mP (inp i + c))) 0 3 → J2 105 k = lN (theRun G (inpW inp i (mP (inp i + c))) 7 k) := fun z => g1.2.2.1.2.2.2.2.1.1 k z
          refine ⟨fun a => io ⟨fun z => ⟨c, rfl, by omega, ?_⟩, fun z => ⟨k, rfl, by omega, c, rfl, by omega, ?_⟩⟩, fun a => io ⟨fun z0 => io ⟨fun z => ⟨c, rfl, by omega, ?_⟩, fun z => ⟨k, rfl, by omega, c, rfl, by omega, ?_⟩⟩, fun z0 => io ⟨fun z => ⟨c, rfl, by omega, ?_⟩, fun z => ⟨k, rfl, by omega, c, rfl, by omega, ?_⟩⟩⟩⟩
          · have := nx 0 (by rw [if_neg (of_decide_eq_false z)]; rfl)
            rw [a, Bool.false_and] at this
            exact this
          · have := nx (J2 105 k) (by rw [if_pos (of_decide_eq_true z)]; exact qJ (of_decide_eq_true z))
            rw [a, Bool.false_and] at this
            exact this
          · have := nx 0 (by rw [if_neg (of_decide_eq_false z)]; rfl)
            rw [z, Bool.and_false] at this
            exact this
          · rw [z0] at z; cases z
          · rw [z0] at z; cases z
          · have := nx (J2 105 k) (by rw [if_pos (of_decide_eq_true z)]; exact qJ (of_decide_eq_true z))
            rw [z, a, Bool.and_true] at this
            exact this
      exact loop 11 0 _ J (by omega) frB_0 (fun _ _ => rfl) (fun j hj => absurd hj (by omega))
    · rw [hi, if_neg (by decide)] at h0
      exact h0
theorem t_isOther {T' : SP} {Q : Bool → Prop} (hs : Stat R) (hF : finT G T) (hF' : finT G T') (h1 : ∀ t, t < T 0 5 → I 117 t = nI (T 16 t)) (hM : qM I J T' []) (h : Q (! samB T T')) : Wp fb (d + 1) M_X12_isOther [.ref 80, .int (nI (T 0 5))] I J R Q := by
  refine ⟨Nat.le_of_ble_eq_true rfl, fun K hK => ?_⟩
  have b1 := hF.1
  have b2 := hF'.1
  have c5 : (nI (T 0 5) = nI (T' 0 5)) ↔ T 0 5 = T' 0 5 := nI_eq (by omega) (by omega)
  refine g_X12_isOther_0 hK hs ?_
  rw [hM.1.2.2.2.1, c5]
  refine ⟨fun z => ?_, fun z => ?_⟩
  · have loop : ∀ (m c : Nat), c + m = T 0 5 → (∀ t, t < c → T 16 t = T' 16 t) → K 12 [(0, .ref 80), (1, .int (nI (T 0 5))), (2, .int (nI c))] [] I J R := by
      intro m
      induction m with
      | zero =>
        intro c hcm f1
        have : c = T 0 5 := by omega
        subst this
        refine g_X12_isOther_12 hK hs ⟨fun _ => ?_, fun z => absurd (nI_le (Nat.le_refl _) (by omega)) z⟩
        have : samB T T' = true := by
          simp only [samB]
          rw [decide_eq_true z, Bool.true_and]
          exact allB_t (fun t ht => decide_eq_true (f1 t ht))
        rw [this] at h
        exact h
      | succ m ih =>
        intro c hcm f1
        refine g_X12_isOther_12 hK hs ⟨fun z => absurd z (nI_ge (by omega) (by omega)), fun _ => ⟨c, rfl, by omega, ?_⟩⟩
        have t1 := hF.2.2.2.2.2 c (by omega)
        have t2 := hF'.2.2.2.2.2 c (by omega)
        have ct : (nI (T 16 c) = nI (T' 16 c)) ↔ T 16 c = T' 16 c := nI_eq (by omega) (by omega)
        rw [h1 c (by omega), hM.2.2.2.2.2.2.1 c (by omega), nI_1, ct]
        refine ⟨fun y => ih (c + 1) (by omega) (fun w hw => ?_), fun y => ?_⟩
        · by_cases hwc : w = c
          · subst hwc; exact y
          · exact f1 w (by omega)
        · have : samB T T' = false := by
            simp only [samB]
            rw [allB_f (j := c) (decide_eq_false y) (by omega), Bool.and_false]
          rw [this] at h
          exact h
    exact loop (T 0 5) 0 (by omega) (fun w hw => absurd hw (by omega))
  · have : samB T T' = false := by
      simp only [samB, decide_eq_false z, Bool.false_and]
    rw [this] at h
    exact h
theorem m_bends {Q : Int32 → HI → HJ → Prop} (hw : wfG G D N) (hT : T = theRun G inp) (hr : rQ I J R G T) (hJ : ∀ j, j < 4 → J 91 j = lN (inp j)) (hib : ∀ j, j < 4 → inp j < 1000000007) (h : ∀ I' J', rQ I' J' R G T → frB I I' J J' → J' 91 = J 91 → Q (bendsV G T inp x1) I' J') : Wd fi (d + 6) M_X12_bends [.ref 80, .int x1] I J R Q := by
  refine ⟨Nat.le_of_ble_eq_true rfl, fun K hK => ?_⟩
  have hs := hr.1
  have h4 := hw.2.2.2.2.2.1
  have hF : finT G T := by rw [hT]; exact theRun_fin hw (fun j hj => hib j (by omega))
  have b1 := hF.1
  have hr0 := rQ_fr (frA_0 (I := I) (J := J)) hr
  have h0 := h _ _ hr0 frB_0 rfl
  refine g_X12_bends_0 hK hs ?_
  simp only [bendsV] at h h0
  refine t_isInput hs h4 hr0.2.1.2.2.1 ⟨fun hi => ?_, fun hi => ?_⟩
  · rw [hi, if_pos rfl] at h h0
    obtain ⟨i, ci, c02, c22⟩ := in_ex (by omega) hi
    rw [c22] at h
    have hif := hib i (by omega)
    rw [hr.2.2.1.1.2.2.2.1, ci]
    generalize hW : bnF G T inp i 100 1 = W at h
    have stop : ∀ (x6 : Int32) (I1 : HI) (J1 : HJ), frB I I1 J J1 → (∀ j, ¬ j = i → J1 91 j = J 91 j) → x6 = W → ∃ n2 : Nat, nI i = nI n2 ∧ n2 < 4 ∧ Wd fv (d + 5) M_X12_runs [.ref 80] I1 (up J1 91 n2 (lN (inp i))) R (fun _ I6 J7 => Q x6 I6 J7) := by
      intro x6 I1 J1 f1 f2 he
      rw [he]
      exact ⟨i, rfl, by omega, t_runsE hs hw hT hr.2.1 hib hJ f2 (by omega) f1 (fun I3 J3 e1 e2 e3 _ => h I3 J3 e1 e2 e3)⟩
    have loop : ∀ (m c : Nat) (I1 : HI) (J1 : HJ), c + m = 101 → frB I I1 J J1 → (∀ j, ¬ j = i → J1 91 j = J 91 j) → (∀ t, t < T 0 5 → I1 117 t = nI (T 16 t)) → bnF G T inp i m c = W → K 59 [(0, .ref 80), (1, .int (nI i)), (2, .int (nI (T 0 5))), (3, .long (lN (inp i))), (5, .int (-2)), (6, .int (nI c))] [] I1 J1 R := by
      intro m
      induction m with
      | zero =>
        intro c I1 J1 hcm f1 f2 f3 he
        have : c = 101 := by omega
        subst this
        simp only [bnF] at he
        exact g_X12_bends_59 hK hs ⟨fun _ => stop _ I1 J1 f1 f2 he, fun z => absurd (by decide) z⟩
      | succ m ih =>
        intro c I1 J1 hcm f1 f2 f3 he
        refine g_X12_bends_59 hK hs ⟨fun z => absurd z (nI_nlt (a := 100) (by omega) (by omega)), fun _ => ⟨fun z => absurd rfl z, fun _ => ?_⟩⟩
        refine t_left hs (by rw [ladd_i hif]; have := nI_toInt (n := c) (by omega); omega) (by rw [ladd_i hif]; have := nI_toInt (n := c) (by omega); omega) ⟨i, rfl, by omega, ?_⟩
        rw [ladd_i hif, nI_toInt (by omega), show (inp i : Int) + (c : Int) = ((inp i + c : Nat) : Int) by omega, zP_nat]
        refine t_runsB hs hw hr.2.1 hib hJ f2 (mP_lt _) f1 (fun I2 J2 g1 g2 g3 g4 g5 => ?_)
        have hJ2 : ∀ j, ¬ j = i → J2 91 j = J 91 j := fun j hj => (g4 j).trans (if_neg hj)
        have f3' : ∀ t, t < T 0 5 → I2 117 t = nI (T 16 t) := fun t ht => (congrFun (g5.1 117 (by decide) (by decide)) t).trans (f3 t ht)
        simp only [bnF] at he
        generalize theRun G (inpW inp i (mP (inp i + c))) = T' at he g1 g2
        rw [nI_1]
        refine t_isOther (T := T) hs hF g2 f3' g1.2.2.1 ⟨fun z => ?_, fun z => ?_⟩
        · have z : samB T T' = true := by
            rcases hb : samB T T' with _ | _
            · rw [hb] at z; cases z
            · rfl
          rw [z, if_pos rfl] at he
          exact ih (c + 1) I2 J2 (by omega) g3 hJ2 f3' he
        · have z : samB T T' = false := by
            rcases hb : samB T T' with _ | _
            · rfl
            · rw [hb] at z; cases z
          rw [z, if_neg (by decide)] at he
          have nm : ¬ nI c = -2 := by
            intro w
            have := congrArg Int32.toInt w
            rw [nI_toInt (by omega), show (-2 : Int32).toInt = -2 from rfl] at this
            omega
          exact g_X12_bends_59 hK hs ⟨fun _ => stop _ I2 J2 g3 hJ2 he, fun _ => ⟨fun _ => stop _ I2 J2 g3 hJ2 he, fun w => absurd w nm⟩⟩
    have copy : ∀ (m c : Nat) (I1 : HI), c + m = T 0 5 → frB I I1 J J → (∀ t, t < T 0 5 → I1 107 t = nI (T 16 t)) → (∀ t, t < c → I1 117 t = nI (T 16 t)) → K 22 [(0, .ref 80), (1, .int (nI i)), (2, .int (nI (T 0 5))), (3, .int (nI c))] [] I1 J R := by
      intro m
      induction m with
      | zero =>
        intro c I1 hcm f1 f2 f3
        have : c = T 0 5 := by omega
        subst this
        refine g_X12_bends_22 hK hs ⟨fun _ => ⟨i, rfl, by omega, ?_⟩, fun z => absurd (nI_le (Nat.le_refl _) (by omega)) z⟩
        rw [hJ i (by omega)]
        exact loop 100 1 I1 J (by omega) f1 (fun _ _ => rfl) f3 hW
      | succ m ih =>
        intro c I1 hcm f1 f2 f3
        refine g_X12_bends_22 hK hs ⟨fun z => absurd z (nI_ge (by omega) (by omega)), fun _ => ⟨c, rfl, by omega, ?_⟩⟩
        rw [nI_1, f2 c (by omega)]
        refine ih (c + 1) _ (by omega) (frB_I (c := 117) (by decide) (by decide) f1 (fun a ha => up_ne _ _ _ _ ha)) (fun t ht => (up_na (by decide)).trans (f2 t ht)) (fun t ht => ?_)
        by_cases htc : t = c
        · subst htc
          exact up_s
        · rw [up_nk htc]
          exact f3 t (by omega)
    exact copy (T 0 5) 0 _ (by omega) frB_0 (fun t ht => (up_na (by decide)).trans (hr.2.2.1.2.2.2.2.2.2.1 t ht)) (fun t ht => absurd ht (by omega))
  · rw [hi, if_neg (by decide)] at h0
    exact h0
end BS
