/-! newton: the class; what a trial leaves -/
def frK (R R' : HR) : Prop := Stat R' ∧ ∀ b j, ¬ b = 45 → R' b j = R b j
theorem frK_rf {R : HR} (hs : Stat R) : frK R R := ⟨hs, fun _ _ _ => rfl⟩
theorem frK_up {R R1 : HR} {p : Nat} (h : frK R R1) : frK R (up R1 45 0 (some p)) := ⟨su_X1_0 h.1 (Or.inr rfl), fun b j hb => (up_na hb).trans (h.2 b j hb)⟩
theorem frK_tr {R R1 R2 : HR} (h1 : frK R R1) (h2 : frK R1 R2) : frK R R2 := ⟨h2.1, fun b j hb => (h2.2 b j hb).trans (h1.2 b j hb)⟩
theorem frK_g {R R' : HR} (h : frK R R') : am_g R' = am_g R := by simp only [am_g, h.2 1001 0 (by decide)]
theorem cQ_K {I : HI} {R R' : HR} {G T : SP} {N : Nat → List Nat} (h : frK R R') (hc : cQ I R G N T) : cQ I R' G N T := by
  obtain ⟨hs, ⟨p, hp1, hp2, hp3⟩, hm⟩ := hc
  exact ⟨h.1, ⟨p, (h.2 0 5 (by decide)).trans hp1, hp2, hp3⟩, hm⟩
theorem inpW_lt {inp : Nat → Nat} {k v : Nat} (hib : ∀ j, j < 4 → inp j < 1000000007) (hv : v < 1000000007) : ∀ j, j < 4 → inpW inp k v j < 1000000007 := by
  intro j hj
  simp only [inpW]
  split
  · exact hv
  · exact hib j hj
theorem inpW_self (inp : Nat → Nat) (k : Nat) : inpW inp k (inp k) = inp := by
  funext j
  simp only [inpW]
  split
  · rename_i h; rw [h]
  · rfl
theorem x_1n {x : Int32} {n : Nat} (hn : n < 2 ^ 31) (h0 : ¬ x < 1) (h1 : x ≤ nI n) : ∃ k, x = nI k ∧ xN x = k ∧ k ≤ n ∧ 1 ≤ k := by
  rw [show (1 : Int32) = nI 1 from rfl, x_ltn x (by decide)] at h0
  rw [x_len x hn] at h1
  exact ⟨x.toInt.toNat, (x_eqn x (by omega)).mpr (by omega), rfl, by omega, by omega⟩
def nwF (G : SP) (inp : Nat → Nat) (k i : Nat) : Nat → Nat → Int32
  | 0, x => nI x
  | m + 1, x => if k < theRun G (inpW inp i x) 0 3 then (if sloV (theRun G (inpW inp i x)) k (1000 + i) = 0 then -2 else nwF G inp k i m (sP x (mP (theRun G (inpW inp i x) 7 k * ivP (sloV (theRun G (inpW inp i x)) k (1000 + i)))))) else -2
def newtonV (G T : SP) (inp : Nat → Nat) (x1 x2 x3 : Int32) : Int32 := if inN x1 (T 0 3) = true then (if inN x2 (G 3 2) = true then (if x3 < 1 then -1 else if x3 ≤ 20 then nwF G inp (xN x1) (xN x2) (xN x3) (inp (xN x2)) else -1) else -1) else -1
section BP
variable {d : Nat} {I : HI} {J : HJ} {R : HR} {o : Nat} {G T : SP} {D : Nat → Nat} {N : Nat → List Nat} {inp : Nat → Nat} {x1 x2 x3 : Int32}
theorem t_try {k v : Nat} {Q : Unit → HI → HR → Prop} (hw : wfG G D N) (hc : cQ I R G N T) (hin : ∀ j, j < 4 → I 16 j = nI (inp j)) (hib : ∀ j, j < 4 → inp j < 1000000007) (hk : k < G 3 2) (hv : v < 1000000007) (h : ∀ I' R', frK R R' → frC I I' → (∀ a, 71 < a → I' a = I a) → finT G (theRun G (inpW inp k v)) → mR I' 45 G N (theRun G (inpW inp k v)) → Q () I' R') : Wr fv (d + 7) M_X11_tryInput [.ref 0, .int (nI k), .int (nI v)] I J R Q := by
  obtain ⟨hs, ⟨p, hp1, hp2, hp3⟩, hm⟩ := id hc
  have h4 := hw.2.2.2.2.2.1
  refine e_X11_tryInput hs ⟨fun q => absurd q (nI_pos (by omega)), fun _ => ⟨fun q => absurd q (nI_ge (b := 4) (by omega) (by omega)), fun _ => ⟨k, rfl, by omega, p, hp1, hp2, ?_⟩⟩⟩
  have hne : ∀ c, ¬ c = 44 → up (am_cp I 16 44 0 0 4) 44 k (nI v) c = I c := by
    intro c hc
    rw [up_ne _ _ _ _ hc]
    funext j
    simp only [am_cp]
    rw [if_neg hc]
  have hf1 : frC I (up (am_cp I 16 44 0 0 4) 44 k (nI v)) := frC_c (c := 44) (Or.inr (Nat.le_refl _)) (by decide) frC_rf hne
  have hP1 : pR (up (am_cp I 16 44 0 0 4) 44 k (nI v)) p G := by
    rcases hp2 with rfl | rfl
    · simp only [pR, hne 8 (by decide), hne (8 + 1) (by decide), hne (8 + 2) (by decide), hne (8 + 3) (by decide)]
      exact hp3
    · simp only [pR, hne 12 (by decide), hne (12 + 1) (by decide), hne (12 + 2) (by decide), hne (12 + 3) (by decide)]
      exact hp3
  refine t_execute (G := G) (D := D) (N := N) (inp := fun j => if j = k then v else inp j) hs (Or.inr rfl) hp2 hw hP1 (sc_44 hs) rfl (Or.inl (by decide)) (fun j hj => ?_) (fun j hj => ?_) (fun I' g1 g2 => ?_)
  · by_cases hjk : j = k
    · simp [hjk, hv]
    · simp [hjk]
      exact hib j (by omega)
  · by_cases hjk : j = k
    · subst hjk
      rw [up_s]
      simp
    · rw [up_nk hjk, cp_44 (by omega), hin j (by omega)]
      simp [hjk]
  · refine h I' _ (frK_up (frK_rf hs)) ⟨fun a a1 a2 => (g2 a (Or.inl (by omega))).trans (hf1.1 a a1 a2), fun a a1 => (g2 a (Or.inr (by omega))).trans (hf1.2 a a1)⟩ (fun a ha => (g2 a (Or.inr (by omega))).trans (hne a (by omega))) (theRun_fin hw (fun j hj => inpW_lt hib hv j (by omega))) g1
theorem c_newton {Q : Int32 → HI → HR → Prop} (hw : wfG G D N) (hF : finT G T) (hc : cQ I R G N T) (hin : ∀ j, j < 4 → I 16 j = nI (inp j)) (hib : ∀ j, j < 4 → inp j < 1000000007) (h : ∀ I' R', frC I I' → frK R R' → Q (newtonV G T inp x1 x2 x3) I' R') : Wr fi (d + 8) M_X11_newton [.ref 0, .int x1, .int x2, .int x3] I J R Q := by
  refine ⟨Nat.le_of_ble_eq_true rfl, fun K hK => ?_⟩
  obtain ⟨hs, ⟨p, hp1, hp2, hp3⟩, ⟨n1, n2, n3⟩, v1, v2, v3, v4, v5, v6, v7⟩ := id hc
  have h4 := hw.2.2.2.2.2.1
  have h20 := hF.1.2.2.2.2.1
  have h0 := h I R frC_rf (frK_rf hs)
  simp only [newtonV] at h h0
  refine g_X11_newton_0 hK hs hs rfl ?_
  refine t_hasOut (T := T) hs hF v4.1 ⟨fun hb => ?_, fun hb => ?_⟩
  · rw [hb, if_neg (by decide)] at h0
    exact h0
  · rw [hb, if_pos rfl] at h h0
    obtain ⟨k, ck, c0, c2⟩ := in_ex (by omega) hb
    refine t_hasInput hs h4 hp1 hp2 hp3.2.2.1 ⟨fun hi => ?_, fun hi => ?_⟩
    · rw [hi, if_neg (by decide)] at h0
      exact h0
    · rw [hi, if_pos rfl] at h h0
      obtain ⟨i, ci, c02, c22⟩ := in_ex (by omega) hi
      refine ⟨fun q => ?_, fun q => ⟨fun q1 => ⟨i, ci, by omega, ?_⟩, fun q1 => ?_⟩⟩
      · rw [if_pos q] at h0
        exact h0
      · rw [if_neg q, if_pos q1, c2, c22] at h
        obtain ⟨n, cn, cn2, hn, hn1⟩ := x_1n (n := 20) (by decide) q q1
        rw [cn2] at h
        rw [hin i (by omega), ck, ci, cn]
        generalize hW : nwF G inp k i n (inp i) = W at h
        have loop : ∀ (m c x : Nat) (I1 : HI) (R1 : HR), c + m = n → x < 1000000007 → frC I I1 → frK R R1 → nwF G inp k i m x = W → K 40 [(0, .ref 0), (1, .int (nI k)), (2, .int (nI i)), (3, .int (nI n)), (4, .int (nI x)), (5, .int (nI c))] [] I1 J R1 := by
          intro m
          induction m with
          | zero =>
            intro c x I1 R1 hcm hx f1 f2 he
            have : c = n := by omega
            subst this
            simp only [nwF] at he
            refine g_X11_newton_40 hK hs f2.1 (frK_g f2) ⟨fun _ => ?_, fun z => absurd (nI_le (Nat.le_refl _) (by omega)) z⟩
            rw [he]
            exact h I1 R1 f1 f2
          | succ m ih =>
            intro c x I1 R1 hcm hx f1 f2 he
            refine g_X11_newton_40 hK hs f2.1 (frK_g f2) ⟨fun z => absurd z (nI_ge (by omega) (by omega)), fun _ => ?_⟩
            have hc1 := cQ_K f2 (cQ_fr f1 hc)
            refine t_try hw hc1 (fun j hj => (congrFun (f1.1 16 (by decide) (by decide)) j).trans (hin j hj)) hib c02 hx (fun I2 R2 e1 e2 e3 hT' g1 => ?_)
            simp only [nwF] at he
            generalize theRun G (inpW inp i x) = T' at he hT' g1
            have s55 : slR I2 55 (T' 7) (T' 8) (T' 0 3) := g1.2.2.2.2.1
            have t58 : tpR I2 58 T' (T' 0 4) := g1.2.2.2.2.2.1
            have h3' := hT'.1.2.2.2.2.1
            have cl : (nI k < nI (T' 0 3)) ↔ k < T' 0 3 := nI_ltI (by omega) (by omega)
            have x55 : isX8 55 := Or.inr (Or.inr (Or.inr (Or.inr (Or.inr (Or.inr (Or.inr rfl))))))
            rw [s55.1, cl]
            refine ⟨fun z => ?_, fun z => ?_⟩
            · rw [if_pos z] at he
              refine t_sourceAt e1.1 x55 s55.1 (by omega) z ?_
              rw [show I2 (55 + 2) k = sI (T' 8 k) from s55.2.2 k z, show (1000 : Int32) + nI i = nI (1000 + i) from nI_add 1000 i]
              refine t_onceG e1.1 (Or.inr rfl) (by decide) h4 hT' t58 (hT'.2.2.2.1 k z).2 (by omega) (fun I3 f3 => ?_)
              have f4 : frC I I3 := frC_c (c := 73) (Or.inr (by decide)) (by decide) (frC_tr f1 e2) f3
              have hsl : sloV T' k (1000 + i) < 1000000007 := slo_lt (slA_lt T' _ _)
              have cs : (nI (sloV T' k (1000 + i)) = (0 : Int32)) ↔ sloV T' k (1000 + i) = 0 := nI_eq (b := 0) (by omega) (by decide)
              rw [show slo (slA T' (1000 + i) (T' 0 4)) (1000 + i) (T' 8 k) = sloV T' k (1000 + i) from rfl, cs]
              refine ⟨fun y => ?_, fun y => ?_⟩
              · rw [if_neg y] at he
                refine t_valueAt e1.1 x55 (by rw [f3 55 (by decide)]; exact s55.1) (by omega) z ?_
                rw [f3 (55 + 1) (by decide), s55.2.1 k z]
                refine t_inverse e1.1 hsl ?_
                refine t_times e1.1 (hT'.2.2.2.1 k z).1 (ivP_lt _) ?_
                refine t_minus e1.1 hx (mP_lt _) ?_
                rw [nI_1]
                exact ih (c + 1) _ I3 R2 (by omega) (sP_lt _ _) f4 (frK_tr f2 e1) he
              · rw [if_pos y] at he
                rw [← he] at h
                exact h I3 R2 f4 (frK_tr f2 e1)
            · rw [if_neg z] at he
              rw [← he] at h
              exact h I2 R2 (frC_tr f1 e2) (frK_tr f2 e1)
        exact loop n 0 (inp i) I R (by omega) (hib i (by omega)) frC_rf (frK_rf hs) hW
      · rw [if_neg q, if_neg q1] at h0
        exact h0
end BP
