/-! degree, bends: the class -/
def allB (A : Nat → Bool) : Nat → Bool
  | 0 => true
  | n + 1 => allB A n && A n
theorem allB_t {A : Nat → Bool} : ∀ {n : Nat}, (∀ j, j < n → A j = true) → allB A n = true
  | 0, _ => rfl
  | n + 1, h => by
    simp only [allB, Bool.and_eq_true]
    exact ⟨allB_t (fun j hj => h j (by omega)), h n (by omega)⟩
theorem allB_f {A : Nat → Bool} {j : Nat} (hA : A j = false) : ∀ {n : Nat}, j < n → allB A n = false
  | 0, h => absurd h (by omega)
  | n + 1, h => by
    simp only [allB]
    by_cases hj : j = n
    · rw [← hj, hA, Bool.and_false]
    · rw [allB_f hA (by omega), Bool.false_and]
theorem allB_o {A : Nat → Bool} {j : Nat} : ∀ {n : Nat}, allB A n = true → j < n → A j = true
  | 0, _, h => absurd h (by omega)
  | n + 1, hA, h => by
    simp only [allB, Bool.and_eq_true] at hA
    by_cases hj : j = n
    · rw [hj]; exact hA.2
    · exact allB_o hA.1 (by omega)
def dfN (f : Nat → Nat) (j : Nat) : Nat := sP (f (j + 1)) (f j)
def dfW (f : Nat → Nat) (q : Nat) : Nat → Nat := fun j => if j < q then dfN f j else f j
def dgF : Nat → Nat → (Nat → Nat) → Int32
  | 0, _, _ => -2
  | m + 1, n, f => if allB (fun j => decide (dfN f j = 0)) (10 - n) = true then nI n else dgF m (n + 1) (dfW f (10 - n))
theorem dfW_lt {f : Nat → Nat} {q : Nat} (h : ∀ j, f j < 1000000007) : ∀ j, dfW f q j < 1000000007 := by
  intro j
  simp only [dfW, dfN]
  split
  · exact sP_lt _ _
  · exact h j
def degreeV (G T : SP) (inp : Nat → Nat) (x1 x2 : Int32) : Int32 := if inN x1 (T 0 3) = true then (if inN x2 (G 3 2) = true then (if allB (fun b => decide (xN x1 < theRun G (inpW inp (xN x2) (mP (inp (xN x2) + b))) 0 3)) 11 = true then dgF 9 0 (fun b => if b < 11 then theRun G (inpW inp (xN x2) (mP (inp (xN x2) + b))) 7 (xN x1) else 0) else -2) else -1) else -1
def samB (T T' : SP) : Bool := decide (T 0 5 = T' 0 5) && allB (fun t => decide (T 16 t = T' 16 t)) (T 0 5)
def bnF (G T : SP) (inp : Nat → Nat) (i : Nat) : Nat → Nat → Int32
  | 0, _ => -2
  | m + 1, b => if samB T (theRun G (inpW inp i (mP (inp i + b)))) = true then bnF G T inp i m (b + 1) else nI b
def bendsV (G T : SP) (inp : Nat → Nat) (x1 : Int32) : Int32 := if inN x1 (G 3 2) = true then bnF G T inp (xN x1) 100 1 else -1
theorem act_tests {G T : SP} (h1 : ¬ G 0 (T 0 0) = 12) (h2 : ¬ G 0 (T 0 0) = 13) : actT G T 0 5 = T 0 5 := by
  simp only [actT]
  repeat' split
  all_goals first
    | (exfalso; omega)
    | simp [pushT, enterT, up_ap]
theorem run_tests {G : SP} (hn : ∀ i, i < G 3 0 → ¬ G 0 i = 12 ∧ ¬ G 0 i = 13) : ∀ (f : Nat) (T : SP), runT G f T 0 5 = T 0 5
  | 0, T => rfl
  | f + 1, T => by
    simp only [runT]
    split
    · rename_i h0
      split
      · rw [run_tests hn f, stepT_0 (by decide) (by decide), act_tests (hn _ h0).1 (hn _ h0).2]
      · exact up_nk (by decide)
    · rfl
theorem theRun_tests {G : SP} {inp : Nat → Nat} (hn : ∀ i, i < G 3 0 → ¬ G 0 i = 12 ∧ ¬ G 0 i = 13) : theRun G inp 0 5 = 0 := by
  simp only [theRun]
  rw [run_tests hn]
  simp [startT]
theorem bnF_no {G : SP} {inp : Nat → Nat} {i : Nat} (hn : ∀ i, i < G 3 0 → ¬ G 0 i = 12 ∧ ¬ G 0 i = 13) : ∀ (m b : Nat), bnF G (theRun G inp) inp i m b = -2
  | 0, _ => rfl
  | m + 1, b => by
    simp only [bnF]
    have : samB (theRun G inp) (theRun G (inpW inp i (mP (inp i + b)))) = true := by
      simp only [samB, theRun_tests hn, allB]
      decide
    rw [if_pos this]
    exact bnF_no hn m (b + 1)
theorem pW_cg {f g : Nat → Nat} {n w : Nat} (h : ∀ j, j < n → f j = g j) : ∀ b, pW f n w b = pW g n w b
  | 0 => rfl
  | b + 1 => by
    simp only [pW]
    rw [pW_cg h b]
    split
    · rename_i hlt
      rw [h _ hlt]
    · rfl
section BQ
variable {d : Nat} {I : HI} {J : HJ} {R : HR} {o : Nat} {G T : SP} {D : Nat → Nat} {N : Nat → List Nat} {inp : Nat → Nat} {x1 x2 x3 : Int32}
theorem t_takeDiff {f : Nat → Nat} {q : Nat} {Q : Bool → HI → Prop} (hs : Stat R) (hq : q ≤ 10) (hb : ∀ j, f j < 1000000007) (hA : rN I 79 f 11) (h : ∀ I', (∀ c, ¬ c = 79 → I' c = I c) → rN I' 79 (dfW f q) 11 → Q (allB (fun j => decide (dfN f j = 0)) q) I') : Wc fb (d + 2) M_X11_takeDifferences [.ref 0, .int (nI q)] I J R Q := by
  refine ⟨Nat.le_of_ble_eq_true rfl, fun K hK => ?_⟩
  have loop : ∀ (m c : Nat) (I1 : HI), c + m = q → (∀ c, ¬ c = 79 → I1 c = I c) → rN I1 79 (dfW f c) 11 → K 4 [(0, .ref 0), (1, .int (nI q)), (2, .int (b2i (allB (fun j => decide (dfN f j = 0)) c))), (3, .int (nI c))] [] I1 J R := by
    intro m
    induction m with
    | zero =>
      intro c I1 hcm f1 f2
      have : c = q := by omega
      subst this
      exact g_X11_takeDifferences_4 hK hs ⟨fun _ => h I1 f1 f2, fun z => absurd (nI_le (Nat.le_refl _) (by omega)) z⟩
    | succ m ih =>
      intro c I1 hcm f1 f2
      refine g_X11_takeDifferences_4 hK hs ⟨fun z => absurd z (nI_ge (by omega) (by omega)), fun _ => ?_⟩
      rw [nI_1]
      refine ⟨fun z => absurd z (nI_ge (b := 11) (by omega) (by omega)), fun _ => ⟨c + 1, rfl, by omega, c, rfl, by omega, ?_⟩⟩
      rw [f2 (c + 1) (by omega), f2 c (by omega)]
      have e1 : dfW f c (c + 1) = f (c + 1) := if_neg (by omega)
      have e2 : dfW f c c = f c := if_neg (by omega)
      rw [e1, e2]
      refine t_minus hs (hb _) (hb _) ?_
      have nx := ih (c + 1) (up I1 79 c (nI (dfN f c))) (by omega) (fun a ha => (up_ne _ _ _ _ ha).trans (f1 a ha)) (by
        intro j hj
        by_cases hjc : j = c
        · subst hjc
          rw [up_s]
          simp only [dfW]
          rw [if_pos (by omega)]
        · rw [up_nk hjc, f2 j hj]
          simp only [dfW]
          by_cases hl : j < c
          · rw [if_pos hl, if_pos (by omega)]
          · rw [if_neg hl, if_neg (by omega)])
      simp only [allB] at nx
      have cz : (nI (dfN f c) = (0 : Int32)) ↔ dfN f c = 0 := nI_eq (b := 0) (by have := sP_lt (f (c + 1)) (f c); simp only [dfN]; omega) (by decide)
      change (allB (fun j => decide (dfN f j = 0)) c = false → K 4 _ _ (up I1 79 c (nI (dfN f c))) J R) ∧ (allB (fun j => decide (dfN f j = 0)) c = true → (¬ nI (dfN f c) = 0 → K 4 _ _ (up I1 79 c (nI (dfN f c))) J R) ∧ (nI (dfN f c) = 0 → K 4 _ _ (up I1 79 c (nI (dfN f c))) J R))
      rw [cz]
      refine ⟨fun z => ?_, fun z => ⟨fun y => ?_, fun y => ?_⟩⟩
      · rw [z, Bool.false_and] at nx
        exact nx
      · rw [z, decide_eq_false y, Bool.and_false] at nx
        exact nx
      · rw [z, decide_eq_true y, Bool.and_true] at nx
        exact nx
  refine g_X11_takeDifferences_0 hK hs ?_
  refine loop q 0 I (by omega) (fun _ _ => rfl) (fun j hj => ?_)
  rw [hA j hj]
  simp only [dfW]
  rw [if_neg (by omega)]
theorem c_degree {Q : Int32 → HI → HR → Prop} (hw : wfG G D N) (hF : finT G T) (hc : cQ I R G N T) (hin : ∀ j, j < 4 → I 16 j = nI (inp j)) (hib : ∀ j, j < 4 → inp j < 1000000007) (h : ∀ I' R', frC I I' → frK R R' → Q (degreeV G T inp x1 x2) I' R') : Wr fi (d + 8) M_X11_degree [.ref 0, .int x1, .int x2] I J R Q := by
  refine ⟨Nat.le_of_ble_eq_true rfl, fun K hK => ?_⟩
  obtain ⟨hs, ⟨p, hp1, hp2, hp3⟩, ⟨n1, n2, n3⟩, v1, v2, v3, v4, v5, v6, v7⟩ := id hc
  have h4 := hw.2.2.2.2.2.1
  have h20 := hF.1.2.2.2.2.1
  have h0 := h I R frC_rf (frK_rf hs)
  simp only [degreeV] at h h0
  refine g_X11_degree_0 hK hs hs rfl ?_
  refine t_hasOut (T := T) hs hF v4.1 ⟨fun hb => ?_, fun hb => ?_⟩
  · rw [hb, if_neg (by decide)] at h0
    exact h0
  · rw [hb, if_pos rfl] at h h0
    obtain ⟨k, ck, c0, c2⟩ := in_ex (by omega) hb
    refine t_hasInput hs h4 hp1 hp2 hp3.2.2.1 ⟨fun hi => ?_, fun hi => ?_⟩
    · rw [hi, if_pos rfl] at h h0
      obtain ⟨i, ci, c02, c22⟩ := in_ex (by omega) hi
      rw [c2, c22] at h
      rw [ck, ci]
      have hif := hib i (by omega)
      have later : ∀ (m n : Nat) (f : Nat → Nat) (I1 : HI) (R1 : HR), n + m = 9 → (∀ j, f j < 1000000007) → frC I I1 → frK R R1 → rN I1 79 f 11 → (∀ I' R', frC I I' → frK R R' → Q (dgF m n f) I' R') → K 83 [(0, .ref 0), (3, .int (nI n))] [] I1 J R1 := by
        intro m
        induction m with
        | zero =>
          intro n f I1 R1 hnm hfb f1 f2 f3 hq
          have : n = 9 := by omega
          subst this
          exact g_X11_degree_83 hK hs f2.1 (frK_g f2) ⟨fun _ => hq I1 R1 f1 f2, fun z => absurd (by decide) z⟩
        | succ m ih =>
          intro n f I1 R1 hnm hfb f1 f2 f3 hq
          refine g_X11_degree_83 hK hs f2.1 (frK_g f2) ⟨fun z => absurd z (nI_nlt (a := 8) (by omega) (by omega)), fun _ => ?_⟩
          rw [show (10 : Int32) - nI n = nI (10 - n) from pk_sub (a := 10) (by omega), nI_1]
          refine t_takeDiff f2.1 (by omega) hfb f3 (fun I2 g1 g2 => ?_)
          have f4 : frC I I2 := frC_c (c := 79) (Or.inr (by decide)) (by decide) f1 g1
          simp only [dgF] at hq
          refine ⟨fun z => ?_, fun z => ?_⟩
          · rw [z, if_neg (by decide)] at hq
            exact ih (n + 1) _ I2 R1 (by omega) (dfW_lt hfb) f4 f2 g2 hq
          · rw [z, if_pos rfl] at hq
            exact hq I2 R1 f4 f2
      have loop : ∀ (m c : Nat) (I1 : HI) (R1 : HR), c + m = 11 → frC I I1 → frK R R1 → (∀ j, j < c → k < theRun G (inpW inp i (mP (inp i + j))) 0 3 ∧ I1 79 j = nI (theRun G (inpW inp i (mP (inp i + j))) 7 k)) → K 20 [(0, .ref 0), (1, .int (nI k)), (2, .int (nI i)), (3, .int (nI c))] [] I1 J R1 := by
        intro m
        induction m with
        | zero =>
          intro c I1 R1 hcm f1 f2 f3
          have : c = 11 := by omega
          subst this
          have hal : allB (fun b => decide (k < theRun G (inpW inp i (mP (inp i + b))) 0 3)) 11 = true := allB_t (fun j hj => decide_eq_true (f3 j hj).1)
          rw [if_pos hal] at h
          refine g_X11_degree_20 hK hs f2.1 (frK_g f2) ⟨fun _ => ?_, fun z => absurd (by decide) z⟩
          refine later 9 0 _ I1 R1 rfl ?_ f1 f2 ?_ h
          · intro j
            show (if j < 11 then _ else _) < _
            split
            · rename_i hj
              have hT' : finT G (theRun G (inpW inp i (mP (inp i + j)))) := theRun_fin hw (fun a ha => inpW_lt hib (mP_lt _) a (by omega))
              exact (hT'.2.2.2.1 k (f3 j hj).1).1
            · decide
          · intro j hj
            show _ = nI (if j < 11 then _ else _)
            rw [if_pos hj]
            exact (f3 j hj).2
        | succ m ih =>
          intro c I1 R1 hcm f1 f2 f3
          refine g_X11_degree_20 hK hs f2.1 (frK_g f2) ⟨fun z => absurd z (nI_ge (b := 11) (by omega) (by omega)), fun _ => ⟨i, rfl, by omega, ?_⟩⟩
          have hc1 := cQ_K f2 (cQ_fr f1 hc)
          have hin1 : ∀ j, j < 4 → I1 16 j = nI (inp j) := fun j hj => (congrFun (f1.1 16 (by decide) (by decide)) j).trans (hin j hj)
          rw [hin1 i (by omega)]
          refine t_plus f2.1 hif (by omega) ?_
          refine t_try hw hc1 hin1 hib c02 (mP_lt _) (fun I2 R2 e1 e2 e3 hT' g1 => ?_)
          have s55 : slR I2 55 (theRun G (inpW inp i (mP (inp i + c))) 7) (theRun G (inpW inp i (mP (inp i + c))) 8) (theRun G (inpW inp i (mP (inp i + c))) 0 3) := g1.2.2.2.2.1
          have h3' := hT'.1.2.2.2.2.1
          have cl : (nI k < nI (theRun G (inpW inp i (mP (inp i + c))) 0 3)) ↔ k < theRun G (inpW inp i (mP (inp i + c))) 0 3 := nI_ltI (by omega) (by omega)
          have x55 : isX8 55 := Or.inr (Or.inr (Or.inr (Or.inr (Or.inr (Or.inr (Or.inr rfl))))))
          rw [s55.1, cl]
          refine ⟨fun z => ?_, fun z => ?_⟩
          · refine t_valueAt e1.1 x55 s55.1 (by omega) z ⟨c, rfl, by omega, ?_⟩
            rw [s55.2.1 k z, nI_1]
            refine ih (c + 1) _ R2 (by omega) (frC_u (c := 79) (Or.inr (by decide)) (by decide) (frC_tr f1 e2)) (frK_tr f2 e1) (fun j hj => ?_)
            by_cases hjc : j = c
            · subst hjc
              exact ⟨z, up_s⟩
            · refine ⟨(f3 j (by omega)).1, ?_⟩
              rw [up_nk hjc]
              have : I2 79 j = I1 79 j := congrFun (e3 79 (by decide)) j
              rw [this]
              exact (f3 j (by omega)).2
          · have hal : allB (fun b => decide (k < theRun G (inpW inp i (mP (inp i + b))) 0 3)) 11 = false := allB_f (j := c) (decide_eq_false z) (by omega)
            rw [hal, if_neg (by decide)] at h
            exact h I2 R2 (frC_tr f1 e2) (frK_tr f2 e1)
      exact loop 11 0 I R (by omega) frC_rf (frK_rf hs) (fun j hj => absurd hj (by omega))
    · rw [hi, if_neg (by decide)] at h0
      exact h0
theorem t_hasTest {p : Nat} {Q : Bool → Prop} (hs : Stat R) (hp : isX5 p) (hw : wfG G D N) (hP : pR I p G) (h1 : ∀ i, i < G 3 0 → (G 0 i = 12 ∨ G 0 i = 13) → Q true) (h2 : (∀ i, i < G 3 0 → ¬ G 0 i = 12 ∧ ¬ G 0 i = 13) → Q false) : Wp fb (d + 2) M_X5_hasTest [.ref p] I J R Q := by
  refine ⟨Nat.le_of_ble_eq_true rfl, fun K hK => ?_⟩
  have hlen := hw.2.2.2.2.1
  have loop : ∀ (m c : Nat), c + m = G 3 0 → (∀ i, i < c → ¬ G 0 i = 12 ∧ ¬ G 0 i = 13) → K 2 [(0, .ref p), (1, .int (nI c))] [] I J R := by
    intro m
    induction m with
    | zero =>
      intro c hcm f1
      have : c = G 3 0 := by omega
      subst this
      refine g_X5_hasTest_2 hK hs hp ?_
      rw [hP.1]
      exact ⟨fun _ => h2 f1, fun z => absurd (nI_le (Nat.le_refl _) (by omega)) z⟩
    | succ m ih =>
      intro c hcm f1
      refine g_X5_hasTest_2 hK hs hp ?_
      rw [hP.1]
      refine ⟨fun z => absurd z (nI_ge (by omega) (by omega)), fun _ => ?_⟩
      refine t_pkind hs hp hw hP (by omega) ?_
      have ho := wf_op (hw.1 c (by omega))
      have q12 : (nI (G 0 c) = (12 : Int32)) ↔ G 0 c = 12 := nI_eq (b := 12) (by omega) (by decide)
      have q13 : (nI (G 0 c) = (13 : Int32)) ↔ G 0 c = 13 := nI_eq (b := 13) (by omega) (by decide)
      rw [q12, q13, nI_1]
      refine ⟨fun z => h1 c (by omega) (Or.inl z), fun z => ⟨fun y => ?_, fun y => h1 c (by omega) (Or.inr y)⟩⟩
      refine ih (c + 1) (by omega) (fun j hj => ?_)
      by_cases hjc : j = c
      · subst hjc
        exact ⟨z, y⟩
      · exact f1 j (by omega)
  exact g_X5_hasTest_0 hK hs hp (loop (G 3 0) 0 (by omega) (fun j hj => absurd hj (by omega)))
theorem t_isLike {T' : SP} {Q : Bool → Prop} (hs : Stat R) (hF : finT G T) (hF' : finT G T') (h1 : tsR I 41 (T 16) (T 0 5) (T 0 6)) (h2 : tsR I 69 (T' 16) (T' 0 5) (T' 0 6)) (h : Q (samB T T')) : Wp fb (d + 1) M_X0_isLike [.ref 41, .ref 69] I J R Q := by
  refine ⟨Nat.le_of_ble_eq_true rfl, fun K hK => ?_⟩
  have b1 := hF.1
  have b2 := hF'.1
  have c5 : (nI (T 0 5) = nI (T' 0 5)) ↔ T 0 5 = T' 0 5 := nI_eq (by omega) (by omega)
  refine g_X0_isLike_0 hK hs (Or.inl rfl) (Or.inr rfl) ?_
  rw [h1.1, h2.1, c5]
  refine ⟨fun z => ?_, fun z => ?_⟩
  · have loop : ∀ (m c : Nat), c + m = 32 → (∀ w, w < c → nI (pW (T 16) (T 0 5) w 32) = nI (pW (T' 16) (T' 0 5) w 32)) → K 15 [(0, .ref 41), (1, .ref 69), (2, .int (nI c))] [] I J R := by
      intro m
      induction m with
      | zero =>
        intro c hcm f1
        have : c = 32 := by omega
        subst this
        refine g_X0_isLike_15 hK hs (Or.inl rfl) (Or.inr rfl) ⟨fun _ => ?_, fun z => absurd (by decide) z⟩
        have : samB T T' = true := by
          simp only [samB]
          rw [decide_eq_true z, Bool.true_and]
          refine allB_t (fun t ht => decide_eq_true ?_)
          have := f1 (t / 32) (by omega)
          have e1 := congrArg (fun y : Int32 => y.toBitVec.toNat) this
          rw [pk_tn (pW_lt _ _ _ hF.2.2.2.2.2 32), pk_tn (pW_lt _ _ _ hF'.2.2.2.2.2 32)] at e1
          rw [← pW_bit (T 16) (T 0 5) t ht hF.2.2.2.2.2, ← pW_bit (T' 16) (T' 0 5) t (by omega) hF'.2.2.2.2.2, e1]
        rw [this] at h
        exact h
      | succ m ih =>
        intro c hcm f1
        refine g_X0_isLike_15 hK hs (Or.inl rfl) (Or.inr rfl) ⟨fun z => absurd z (nI_ge (b := 32) (by omega) (by omega)), fun _ => ⟨c, rfl, by omega, ?_⟩⟩
        rw [h1.2.2 c (by omega), h2.2.2 c (by omega), nI_1]
        refine ⟨fun y => ih (c + 1) (by omega) (fun w hw => ?_), fun y => ?_⟩
        · by_cases hwc : w = c
          · subst hwc; exact y
          · exact f1 w (by omega)
        · have : samB T T' = false := by
            rcases hb : samB T T' with _ | _
            · rfl
            · exfalso
              simp only [samB, Bool.and_eq_true] at hb
              apply y
              rw [← z, pW_cg (fun j hj => of_decide_eq_true (allB_o hb.2 hj))]
          rw [this] at h
          exact h
    exact loop 32 0 (by omega) (fun w hw => absurd hw (by omega))
  · simp only [samB, decide_eq_false z, Bool.false_and] at h
    exact h
theorem c_bends {Q : Int32 → HI → HR → Prop} (hw : wfG G D N) (hF : finT G T) (hT : T = theRun G inp) (hc : cQ I R G N T) (hin : ∀ j, j < 4 → I 16 j = nI (inp j)) (hib : ∀ j, j < 4 → inp j < 1000000007) (h : ∀ I' R', frC I I' → frK R R' → Q (bendsV G T inp x1) I' R') : Wr fi (d + 8) M_X11_bends [.ref 0, .int x1] I J R Q := by
  refine ⟨Nat.le_of_ble_eq_true rfl, fun K hK => ?_⟩
  obtain ⟨hs, ⟨p, hp1, hp2, hp3⟩, ⟨n1, n2, n3⟩, v1, v2, v3, v4, v5, v6, v7⟩ := id hc
  have h4 := hw.2.2.2.2.2.1
  have h0 := h I R frC_rf (frK_rf hs)
  simp only [bendsV] at h h0
  refine g_X11_bends_0 hK hs hs rfl ?_
  refine t_hasInput hs h4 hp1 hp2 hp3.2.2.1 ⟨fun hi => ⟨p, hp1, hp2, ?_⟩, fun hi => ?_⟩
  · rw [hi, if_pos rfl] at h h0
    obtain ⟨i, ci, c02, c22⟩ := in_ex (by omega) hi
    rw [c22] at h h0
    rw [ci]
    have hif := hib i (by omega)
    refine t_hasTest hs hp2 hw hp3 (fun _ _ _ => ⟨fun _ => ?_, fun z => absurd z (by decide)⟩) (fun hn => ⟨fun z => absurd z (by decide), fun _ => ?_⟩)
    · generalize hW : bnF G T inp i 100 1 = W at h
      have loop : ∀ (m c : Nat) (I1 : HI) (R1 : HR), c + m = 101 → frC I I1 → frK R R1 → bnF G T inp i m c = W → K 25 [(0, .ref 0), (1, .int (nI i)), (2, .int (nI c))] [] I1 J R1 := by
        intro m
        induction m with
        | zero =>
          intro c I1 R1 hcm f1 f2 he
          have : c = 101 := by omega
          subst this
          simp only [bnF] at he
          rw [← he] at h
          exact g_X11_bends_25 hK hs f2.1 (frK_g f2) ⟨fun _ => h I1 R1 f1 f2, fun z => absurd (by decide) z⟩
        | succ m ih =>
          intro c I1 R1 hcm f1 f2 he
          refine g_X11_bends_25 hK hs f2.1 (frK_g f2) ⟨fun z => absurd z (nI_nlt (a := 100) (by omega) (by omega)), fun _ => ⟨i, rfl, by omega, ?_⟩⟩
          have hc1 := cQ_K f2 (cQ_fr f1 hc)
          have hin1 : ∀ j, j < 4 → I1 16 j = nI (inp j) := fun j hj => (congrFun (f1.1 16 (by decide) (by decide)) j).trans (hin j hj)
          rw [hin1 i (by omega)]
          refine t_plus f2.1 hif (by omega) ?_
          refine t_try hw hc1 hin1 hib c02 (mP_lt _) (fun I2 R2 e1 e2 e3 hT' g1 => ?_)
          simp only [bnF] at he
          generalize theRun G (inpW inp i (mP (inp i + c))) = T' at he hT' g1
          have hc2 := cQ_fr e2 hc1
          refine t_isLike (T := T) (T' := T') e1.1 hF hT' hc2.2.2.2.2.2.2.2.2.1 g1.2.2.2.2.2.2.1 ⟨fun z => ?_, fun z => ?_⟩
          · rw [z, if_pos rfl] at he
            rw [nI_1]
            exact ih (c + 1) I2 R2 (by omega) (frC_tr f1 e2) (frK_tr f2 e1) he
          · rw [z, if_neg (by decide)] at he
            rw [he]
            exact h I2 R2 (frC_tr f1 e2) (frK_tr f2 e1)
      exact loop 100 1 I R (by omega) frC_rf (frK_rf hs) hW
    · rw [hT, bnF_no hn] at h0
      exact h0
  · rw [hi, if_neg (by decide)] at h0
    exact h0
end BQ
