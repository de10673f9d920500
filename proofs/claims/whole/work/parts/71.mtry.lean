/-! change, newton: the reference -/
def frB (I I' : HI) (J J' : HJ) : Prop := (∀ a, ¬ a = 80 → (a < 92 ∨ 117 < a) → I' a = I a) ∧ (∀ k, ¬ k = 0 → (k < 44 ∨ 61 < k) → I' 80 k = I 80 k) ∧ I' 80 0 = 0 ∧ (∀ a, ¬ a = 91 → (a < 92 ∨ 117 < a) → J' a = J a)
theorem frB_0 {I : HI} {J : HJ} : frB I (up I 80 0 0) J J := ⟨fun _ h _ => up_ne _ _ _ _ h, fun _ h _ => up_nk h, up_s, fun _ _ _ => rfl⟩
theorem frB_A {I I1 I2 : HI} {J J1 J2 : HJ} (h : frB I I1 J J1) (g : frA I1 I2 J1 J2) : frB I I2 J J2 := ⟨fun a a1 a2 => (g.1 a a1 (by omega)).trans (h.1 a a1 a2), fun k k1 k2 => (g.2.1 k k1).trans (h.2.1 k k1 k2), g.2.2.1, fun a a1 a2 => (g.2.2.2 a (by omega)).trans (h.2.2.2 a a1 a2)⟩
theorem frB_R {I I1 I2 : HI} {J J1 J2 : HJ} (h : frB I I1 J J1) (g : frR I1 I2 J1 J2) : frB I I2 J J2 := ⟨fun a a1 a2 => (g.1 a a1 (by omega)).trans (h.1 a a1 a2), fun k k1 k2 => (g.2.1 k k2).trans (h.2.1 k k1 k2), (g.2.1 0 (by omega)).trans h.2.2.1, fun a a1 a2 => (g.2.2 a (by omega)).trans (h.2.2.2 a a1 a2)⟩
theorem frB_91 {I I1 : HI} {J J1 : HJ} {k : Nat} {x : Int64} (h : frB I I1 J J1) : frB I I1 J (up J1 91 k x) := ⟨h.1, h.2.1, h.2.2.1, fun a a1 a2 => (up_ne _ _ _ _ a1).trans (h.2.2.2 a a1 a2)⟩
theorem frB_J {I I1 : HI} {J J1 J2 : HJ} {c : Nat} (h1 : 92 ≤ c) (h2 : c ≤ 117) (h : frB I I1 J J1) (hf : ∀ a, ¬ a = c → J2 a = J1 a) : frB I I1 J J2 := ⟨h.1, h.2.1, h.2.2.1, fun a a1 a2 => (hf a (by omega)).trans (h.2.2.2 a a1 a2)⟩
theorem frB_I {I I1 I2 : HI} {J J1 : HJ} {c : Nat} (h1 : 92 ≤ c) (h2 : c ≤ 117) (h : frB I I1 J J1) (hf : ∀ a, ¬ a = c → I2 a = I1 a) : frB I I2 J J1 := ⟨fun a a1 a2 => (hf a (by omega)).trans (h.1 a a1 a2), fun k k1 k2 => (congrFun (hf 80 (by omega)) k).trans (h.2.1 k k1 k2), (congrFun (hf 80 (by omega)) 0).trans h.2.2.1, h.2.2.2⟩
theorem pM_B {I I' : HI} {J J' : HJ} {G : SP} (hf : frB I I' J J') (h : pM I G) : pM I' G := by
  simp only [pM, hf.1 84 (by decide) (by decide), hf.1 85 (by decide) (by decide), hf.1 86 (by decide) (by decide), hf.1 87 (by decide) (by decide), hf.1 88 (by decide) (by decide), hf.2.1 30 (by decide) (by decide), hf.2.1 31 (by decide) (by decide), hf.2.1 32 (by decide) (by decide), hf.2.1 33 (by decide) (by decide), hf.2.1 34 (by decide) (by decide), hf.2.1 35 (by decide) (by decide)]
  exact h
theorem inN_n {k n : Nat} (hk : k < 2 ^ 31) : inN (nI k) n = decide (k < n) := by
  simp only [inN, nI_toInt hk]
  by_cases h : k < n
  · rw [decide_eq_true h]
    exact decide_eq_true (by omega)
  · rw [decide_eq_false h]
    exact decide_eq_false (by omega)
theorem ladd_i {a : Nat} {x : Int32} (ha : a < 1000000007) : (lN a + Int32.toInt64 x).toInt = (a : Int) + x.toInt := by
  have h1 := Int32.le_toInt x
  have h2 := Int32.toInt_lt x
  rw [Int64.toInt_add, pk_lT (by omega), i2l]
  apply Int.bmod_eq_of_le <;> omega
theorem zP_add (a : Nat) (z : Int) : zP ((a : Int) + z) = mP (a + zP z) := by
  simp only [zP, mP]
  omega
section BR
variable {d : Nat} {I I1 : HI} {J J1 : HJ} {R : HR} {G T : SP} {D : Nat → Nat} {N : Nat → List Nat} {inp : Nat → Nat} {x1 x2 x3 : Int32}
theorem t_runsB {i x : Nat} {Q : Unit → HI → HJ → Prop} (hs : Stat R) (hw : wfG G D N) (hP : pM I G) (hib : ∀ j, j < 4 → inp j < 1000000007) (hJ : ∀ j, j < 4 → J 91 j = lN (inp j)) (hJ1 : ∀ j, ¬ j = i → J1 91 j = J 91 j) (hx : x < 1000000007) (hf : frB I I1 J J1) (h : ∀ I2 J2, rQ I2 J2 R G (theRun G (inpW inp i x)) → finT G (theRun G (inpW inp i x)) → frB I I2 J J2 → (∀ j, J2 91 j = if j = i then lN x else J 91 j) → frR I1 I2 (up J1 91 i (lN x)) J2 → Q () I2 J2) : Wd fv (d + 5) M_X12_runs [.ref 80] I1 (up J1 91 i (lN x)) R Q := by
  have h4 := hw.2.2.2.2.2.1
  have hP1 := pM_B hf hP
  refine t_runs (inp := inpW inp i x) hs hw hP1 (fun j hj => inpW_lt hib hx j (by omega)) (fun j hj => ?_) (fun I' J' g1 g2 g3 => ?_)
  · simp only [inpW]
    by_cases hji : j = i
    · subst hji
      rw [up_s, if_pos rfl]
    · rw [up_nk hji, hJ1 j hji, if_neg hji, hJ j (by omega)]
  · refine h I' J' ⟨hs, pM_fr g3 hP1, g1, g2⟩ (theRun_fin hw (fun j hj => inpW_lt hib hx j (by omega))) (frB_R (frB_91 hf) g3) (fun j => ?_) g3
    rw [g3.2.2 91 (by decide)]
    by_cases hji : j = i
    · subst hji
      rw [up_s, if_pos rfl]
    · rw [up_nk hji, hJ1 j hji, if_neg hji]
/-- the end of a trial: the old INPUT again -/
theorem t_runsE {i : Nat} {Q : Unit → HI → HJ → Prop} (hs : Stat R) (hw : wfG G D N) (hT : T = theRun G inp) (hP : pM I G) (hib : ∀ j, j < 4 → inp j < 1000000007) (hJ : ∀ j, j < 4 → J 91 j = lN (inp j)) (hJ1 : ∀ j, ¬ j = i → J1 91 j = J 91 j) (hi : i < 4) (hf : frB I I1 J J1) (h : ∀ I2 J2, rQ I2 J2 R G T → frB I I2 J J2 → J2 91 = J 91 → frR I1 I2 (up J1 91 i (lN (inp i))) J2 → Q () I2 J2) : Wd fv (d + 5) M_X12_runs [.ref 80] I1 (up J1 91 i (lN (inp i))) R Q := by
  refine t_runsB hs hw hP hib hJ hJ1 (hib i hi) hf (fun I2 J2 g1 g2 g3 g4 g5 => ?_)
  rw [inpW_self, ← hT] at g1
  refine h I2 J2 g1 g3 ?_ g5
  funext j
  rw [g4 j]
  by_cases hji : j = i
  · subst hji
    rw [if_pos rfl, hJ j hi]
  · rw [if_neg hji]
theorem m_change {Q : Int32 → HI → HJ → Prop} (hw : wfG G D N) (hT : T = theRun G inp) (hr : rQ I J R G T) (hJ : ∀ j, j < 4 → J 91 j = lN (inp j)) (hib : ∀ j, j < 4 → inp j < 1000000007) (h : ∀ I' J', rQ I' J' R G T → frB I I' J J' → J' 91 = J 91 → Q (changeV G T inp x1 x2 x3) I' J') : Wd fi (d + 6) M_X12_change [.ref 80, .int x1, .int x2, .int x3] I J R Q := by
  have hs := hr.1
  have h4 := hw.2.2.2.2.2.1
  have hF : finT G T := by rw [hT]; exact theRun_fin hw (fun j hj => hib j (by omega))
  have h20 := hF.1.2.2.2.2.1
  have hr0 := rQ_fr (frA_0 (I := I) (J := J)) hr
  have h0 := h _ _ hr0 frB_0 rfl
  refine e_X12_change hs ?_
  simp only [changeV] at h h0
  refine t_isOut hs hF hr0.2.2.1 ⟨fun hb => ?_, fun hb => ?_⟩
  · rw [hb, if_neg (by decide)] at h0
    exact h0
  · rw [hb, if_pos rfl] at h h0
    obtain ⟨k, ck, c0, c2⟩ := in_ex (by omega) hb
    refine t_isInput hs h4 hr0.2.1.2.2.1 ⟨fun hi => ?_, fun hi => ?_⟩
    · rw [hi, if_neg (by decide)] at h0
      exact h0
    · rw [hi, if_pos rfl] at h h0
      obtain ⟨i, ci, c02, c22⟩ := in_ex (by omega) hi
      rw [Int32.lt_iff_toInt_lt, Int32.le_iff_toInt_le, show (-1000000000 : Int32).toInt = -1000000000 from rfl, show (1000000000 : Int32).toInt = 1000000000 from rfl]
      refine ⟨fun q => ?_, fun q => ⟨fun q1 => ⟨i, ci, by omega, k, ck, by omega, ?_⟩, fun q1 => ?_⟩⟩
      · rw [if_pos q] at h0
        exact h0
      · rw [if_neg q, if_pos q1, c2, c22] at h
        have hif := hib i (by omega)
        rw [hJ i (by omega), hr0.2.2.1.2.2.2.2.1.1 k c0]
        refine t_left hs (by rw [ladd_i hif]; omega) (by rw [ladd_i hif]; omega) ?_
        rw [ladd_i hif, zP_add]
        refine t_runsB hs hw hr.2.1 hib hJ (fun _ _ => rfl) (mP_lt _) frB_0 (fun I2 J2 g1 g2 g3 g4 g5 => ?_)
        generalize theRun G (inpW inp i (mP (inp i + zP x3.toInt))) = T' at g1 g2 h
        refine t_isOut hs g2 g1.2.2.1 ?_
        have h3' := g2.1.2.2.2.2.1
        rw [ck, inN_n (by omega)]
        have hJ2 : ∀ j, ¬ j = i → J2 91 j = J 91 j := fun j hj => (g4 j).trans (if_neg hj)
        refine ⟨fun z => ?_, fun z => ?_⟩
        · rw [if_neg (of_decide_eq_false z)] at h
          exact t_runsE hs hw hT hr.2.1 hib hJ hJ2 (by omega) g3 (fun I3 J3 e1 e2 e3 _ => h I3 J3 e1 e2 e3)
        · have z := of_decide_eq_true z
          rw [if_pos z] at h
          have l1 := (g2.2.2.2.1 k z).1
          have l2 := (hF.2.2.2.1 k c0).1
          rw [g1.2.2.1.2.2.2.2.1.1 k z]
          refine t_left hs (by rw [lsub l1 l2]; omega) (by rw [lsub l1 l2]; omega) ?_
          rw [lsub l1 l2, zP_sub _ _ (by omega), lN_i]
          exact t_runsE hs hw hT hr.2.1 hib hJ hJ2 (by omega) g3 (fun I3 J3 e1 e2 e3 _ => h I3 J3 e1 e2 e3)
      · rw [if_neg q, if_neg q1] at h0
        exact h0
theorem m_newton {Q : Int32 → HI → HJ → Prop} (hw : wfG G D N) (hT : T = theRun G inp) (hr : rQ I J R G T) (hJ : ∀ j, j < 4 → J 91 j = lN (inp j)) (hib : ∀ j, j < 4 → inp j < 1000000007) (h : ∀ I' J', rQ I' J' R G T → frB I I' J J' → J' 91 = J 91 → Q (newtonV G T inp x1 x2 x3) I' J') : Wd fi (d + 6) M_X12_newton [.ref 80, .int x1, .int x2, .int x3] I J R Q := by
  refine ⟨Nat.le_of_ble_eq_true rfl, fun K hK => ?_⟩
  have hs := hr.1
  have h4 := hw.2.2.2.2.2.1
  have hF : finT G T := by rw [hT]; exact theRun_fin hw (fun j hj => hib j (by omega))
  have h20 := hF.1.2.2.2.2.1
  have hr0 := rQ_fr (frA_0 (I := I) (J := J)) hr
  have h0 := h _ _ hr0 frB_0 rfl
  refine g_X12_newton_0 hK hs ?_
  simp only [newtonV] at h h0
  refine t_isOut hs hF hr0.2.2.1 ⟨fun hb => ?_, fun hb => ?_⟩
  · rw [hb, if_neg (by decide)] at h0
    exact h0
  · rw [hb, if_pos rfl] at h h0
    obtain ⟨k, ck, c0, c2⟩ := in_ex (by omega) hb
    refine t_isInput hs h4 hr0.2.1.2.2.1 ⟨fun hi => ?_, fun hi => ?_⟩
    · rw [hi, if_neg (by decide)] at h0
      exact h0
    · rw [hi, if_pos rfl] at h h0
      obtain ⟨i, ci, c02, c22⟩ := in_ex (by omega) hi
      refine ⟨fun q => ?_, fun q => ⟨fun q1 => ⟨i, ci, by omega, ?_⟩, fun q1 => ?_⟩⟩
      · rw [if_pos q] at h0
        exact h0
      · rw [if_neg q, if_pos q1, c2, c22] at h
        obtain ⟨n, cn, cn2, hn, hn1⟩ := x_1n (n := 20) (by decide) q q1
        rw [cn2] at h
        rw [hJ i (by omega), ck, ci, cn]
        generalize hW : nwF G inp k i n (inp i) = W at h
        have stop : ∀ (x6 : Int32) (I1 : HI) (J1 : HJ), frB I I1 J J1 → (∀ j, ¬ j = i → J1 91 j = J 91 j) → x6 = W → ∃ n2 : Nat, nI i = nI n2 ∧ n2 < 4 ∧ Wd fv (d + 5) M_X12_runs [.ref 80] I1 (up J1 91 n2 (lN (inp i))) R (fun _ I6 J7 => Q x6 I6 J7) := by
          intro x6 I1 J1 f1 f2 he
          rw [he]
          exact ⟨i, rfl, by omega, t_runsE hs hw hT hr.2.1 hib hJ f2 (by omega) f1 (fun I3 J3 e1 e2 e3 _ => h I3 J3 e1 e2 e3)⟩
        have dead : ∀ (c : Nat) (I1 : HI) (J1 : HJ), frB I I1 J J1 → (∀ j, ¬ j = i → J1 91 j = J 91 j) → -2 = W → K 48 [(0, .ref 80), (1, .int (nI k)), (2, .int (nI i)), (3, .int (nI n)), (4, .long (lN (inp i))), (6, .int (-2)), (7, .int (nI c))] [] I1 J1 R := by
          intro c I1 J1 f1 f2 he
          exact g_X12_newton_48 hK hs ⟨fun _ => stop _ I1 J1 f1 f2 he, fun _ => ⟨fun _ => stop _ I1 J1 f1 f2 he, fun z => absurd rfl z⟩⟩
        have loop : ∀ (m c x : Nat) (x6 : Int32) (I1 : HI) (J1 : HJ), c + m = n → x < 1000000007 → frB I I1 J J1 → rQ I1 J1 R G (theRun G (inpW inp i x)) → (∀ j, J1 91 j = if j = i then lN x else J 91 j) → ¬ x6 = -2 → (m = 0 → x6 = nI x) → nwF G inp k i m x = W → K 48 [(0, .ref 80), (1, .int (nI k)), (2, .int (nI i)), (3, .int (nI n)), (4, .long (lN (inp i))), (6, .int x6), (7, .int (nI c))] [] I1 J1 R := by
          intro m
          induction m with
          | zero =>
            intro c x x6 I1 J1 hcm hx f1 f2 f3 f4 f5 he
            have : c = n := by omega
            subst this
            simp only [nwF] at he
            refine g_X12_newton_48 hK hs ⟨fun _ => stop _ I1 J1 f1 (fun j hj => (f3 j).trans (if_neg hj)) ((f5 rfl).trans he), fun z => absurd (nI_le (Nat.le_refl _) (by omega)) z⟩
          | succ m ih =>
            intro c x x6 I1 J1 hcm hx f1 f2 f3 f4 f5 he
            have f3' : ∀ j, ¬ j = i → J1 91 j = J 91 j := fun j hj => (f3 j).trans (if_neg hj)
            have hT' : finT G (theRun G (inpW inp i x)) := theRun_fin hw (fun j hj => inpW_lt hib hx j (by omega))
            have f3i : J1 91 i = lN x := (f3 i).trans (if_pos rfl)
            refine g_X12_newton_48 hK hs ⟨fun z => absurd z (nI_ge (by omega) (by omega)), fun _ => ⟨fun z => absurd z f4, fun _ => ?_⟩⟩
            simp only [nwF] at he
            generalize theRun G (inpW inp i x) = T' at he hT' f2
            have h3' := hT'.1.2.2.2.2.1
            refine t_isOut hs hT' f2.2.2.1 ?_
            rw [inN_n (by omega)]
            refine ⟨fun z => ?_, fun z => ?_⟩
            · rw [if_neg (of_decide_eq_false z)] at he
              refine g_X12_newton_79 hK hs ⟨fun y => absurd rfl y, fun _ => ?_⟩
              rw [nI_1]
              exact dead (c + 1) I1 J1 f1 f3' he
            · have z := of_decide_eq_true z
              rw [if_pos z] at he
              have he' := hT'.1.2.2.2.1
              refine e_X12_riseOf hs ?_
              rw [show (1000 : Int32) + nI i = nI (1000 + i) from nI_add 1000 i]
              refine t_mlays hs (sc_112 hs) rfl (by decide) h4 hT' f2.2.2.1 (by omega) (fun J2 e1 e2 => ⟨k, rfl, by omega, ?_⟩)
              rw [f2.2.2.1.2.2.2.2.1.2 k z]
              refine t_mslo (n := T' 0 4) hs (sc_112 hs) rfl he' (okS_n h4 (hT'.2.2.2.1 k z).2) (by omega) e2 (slA_no T' _ (T' 0 4)) ?_
              have hsl : sloV T' k (1000 + i) < 1000000007 := slo_lt (slA_lt T' _ _)
              have cs : (lN (sloV T' k (1000 + i)) = (0 : Int64)) ↔ sloV T' k (1000 + i) = 0 := lN_eq (b := 0) (by omega) (by decide)
              rw [show slo (slA T' (1000 + i) (T' 0 4)) (1000 + i) (T' 8 k) = sloV T' k (1000 + i) from rfl]
              have f1' : frB I I1 J J2 := frB_J (c := 112) (by decide) (by decide) f1 e1
              have f3'' : ∀ j, ¬ j = i → J2 91 j = J 91 j := fun j hj => (congrFun (e1 91 (by decide)) j).trans (f3' j hj)
              refine g_X12_newton_79 hK hs ?_
              rw [cs]
              refine ⟨fun y => ⟨i, rfl, by omega, k, rfl, by omega, ?_⟩, fun y => ?_⟩
              · rw [if_neg y] at he
                rw [e1 105 (by decide), e1 91 (by decide), f3i, f2.2.2.1.2.2.2.2.1.1 k z]
                refine t_parted hs (hT'.2.2.2.1 k z).1 hsl ?_
                have l2 := mP_lt (T' 7 k * ivP (sloV T' k (1000 + i)))
                refine t_left hs (by rw [lsub hx l2]; omega) (by rw [lsub hx l2]; omega) ?_
                rw [lsub hx l2, zP_sub _ _ (by omega), lN_i]
                have l3 := sP_lt x (mP (T' 7 k * ivP (sloV T' k (1000 + i))))
                refine t_runsB hs hw hr.2.1 hib hJ f3'' l3 f1' (fun I3 J3 g1 g2 g3 g4 g5 => ?_)
                rw [nI_1]
                refine ih (c + 1) _ _ I3 J3 (by omega) l3 g3 g1 g4 ?_ (fun _ => rfl) he
                intro w
                have := congrArg Int32.toInt w
                rw [nI_toInt (by omega), show (-2 : Int32).toInt = -2 from rfl] at this
                omega
              · rw [if_pos y] at he
                rw [nI_1]
                exact dead (c + 1) I1 J2 f1' f3'' he
        refine loop n 0 (inp i) 0 _ J (by omega) (hib i (by omega)) frB_0 ?_ (fun j => ?_) (by decide) (by omega) hW
        · rw [inpW_self, ← hT]
          exact hr0
        · by_cases hji : j = i
          · subst hji
            rw [if_pos rfl, hJ j (by omega)]
          · rw [if_neg hji]
      · rw [if_neg q, if_neg q1] at h0
        exact h0
end BR
