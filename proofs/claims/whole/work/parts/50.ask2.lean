/-! run, path, count, row, fault: both sides -/
def smN (f : Nat → Nat) : Nat → Nat
  | 0 => 0
  | n + 1 => smN f n + f n
def mixB (G : SP) (r q : Nat) : Bool := decide (¬ G 4 r + G 5 r ≤ G 4 q ∧ ¬ G 4 q + G 5 q ≤ G 4 r)
def rowV (G : SP) (x1 x2 : Int32) : Int32 := if inN x1 (G 3 4) = true then (if x2 = 0 then nI (G 5 (xN x1)) else if x2 = 1 then nI (G 4 (xN x1)) else if x2 = 2 then nI (smN (fun q => if mixB G (xN x1) q = true then 1 else 0) (G 3 4)) else -1) else -1
def runV (T : SP) (x : Int32) : Int32 := if x = 0 then nI (T 0 7) else if x = 1 then (if T 0 7 = 0 then -2 else nI (T 0 0)) else if x = 2 then nI (T 0 1) else if x = 3 then nI (T 0 3) else if x = 4 then nI (T 0 4) else if x = 5 then nI (T 0 5) else if x = 6 then nI (T 0 6) else -1
def pathV (T : SP) (x : Int32) : Int32 := if 0 ≤ x then (if inN x (T 0 5) = true then nI (T 16 (xN x)) else -2) else -1
def countV (G : SP) (b : Int32) (x : Int32) : Int32 := if x = 0 then nI (G 3 1) else if x = 1 then nI (G 3 2) else if x = 2 then nI (G 3 3) else if x = 3 then nI (G 3 4) else if x = 4 then nI (G 3 5) else if x = 5 then nI (G 3 0) else if x = 6 then b else -1
def faultV (k p x : Int32) : Int32 := if x = 0 then k else if x = 1 then p else -1
/-- nothing but what a question may change: the reference -/
def frA (I I' : HI) (J J' : HJ) : Prop := (∀ a, ¬ a = 80 → (a < 109 ∨ 117 < a) → I' a = I a) ∧ (∀ k, ¬ k = 0 → I' 80 k = I 80 k) ∧ I' 80 0 = 0 ∧ (∀ a, (a < 109 ∨ 117 < a) → J' a = J a)
theorem frA_0 {I : HI} {J : HJ} : frA I (up I 80 0 0) J J := ⟨fun _ h _ => up_ne _ _ _ _ h, fun _ h => up_nk h, up_s, fun _ _ => rfl⟩
theorem frA_c {I I1 I2 : HI} {J J1 : HJ} {c : Nat} (h1 : 109 ≤ c) (h2 : c ≤ 117) (h : frA I I1 J J1) (hf : ∀ a, ¬ a = c → I2 a = I1 a) : frA I I2 J J1 := ⟨fun a a1 a2 => (hf a (by omega)).trans (h.1 a a1 a2), fun k hk => (congrFun (hf 80 (by omega)) k).trans (h.2.1 k hk), (congrFun (hf 80 (by omega)) 0).trans h.2.2.1, h.2.2.2⟩
theorem frA_u {I I1 : HI} {J J1 : HJ} {c k : Nat} {x : Int32} (h1 : 109 ≤ c) (h2 : c ≤ 117) (h : frA I I1 J J1) : frA I (up I1 c k x) J J1 := frA_c h1 h2 h (fun a ha => up_ne _ _ _ _ ha)
theorem frA_j {I I1 : HI} {J J1 : HJ} {c k : Nat} {x : Int64} (h1 : 109 ≤ c) (h2 : c ≤ 117) (h : frA I I1 J J1) : frA I I1 J (up J1 c k x) := ⟨h.1, h.2.1, h.2.2.1, fun a ha => (up_ne _ _ _ _ (by omega)).trans (h.2.2.2 a ha)⟩
theorem rQ_fr {I I' : HI} {J J' : HJ} {R : HR} {G T : SP} (hf : frA I I' J J') (h : rQ I J R G T) : rQ I' J' R G T := by
  have k : ∀ c, ¬ c = 80 → c < 109 → I' c = I c := fun c h1 h2 => hf.1 c h1 (Or.inl h2)
  have f : ∀ c, ¬ c = 0 → I' 80 c = I 80 c := fun c h1 => hf.2.1 c h1
  have j : ∀ c, c < 109 → J' c = J c := fun c h1 => hf.2.2.2 c (Or.inl h1)
  refine ⟨h.1, ?_, ?_, ?_⟩
  · have := h.2.1
    simp only [pM, f 30 (by decide), f 31 (by decide), f 32 (by decide), f 33 (by decide), f 34 (by decide), f 35 (by decide), k 84 (by decide) (by decide), k 85 (by decide) (by decide), k 86 (by decide) (by decide), k 87 (by decide) (by decide), k 88 (by decide) (by decide)]
    exact this
  · have := h.2.2.1
    simp only [qM, rL, rS, rN, f 44 (by decide), f 47 (by decide), f 54 (by decide), f 56 (by decide), f 57 (by decide), f 61 (by decide), k 92 (by decide) (by decide), k 96 (by decide) (by decide), k 97 (by decide) (by decide), k 98 (by decide) (by decide), k 100 (by decide) (by decide), k 102 (by decide) (by decide), k 104 (by decide) (by decide), k 106 (by decide) (by decide), k 107 (by decide) (by decide), k 108 (by decide) (by decide), j 93 (by decide), j 94 (by decide), j 95 (by decide), j 99 (by decide), j 101 (by decide), j 103 (by decide), j 105 (by decide)]
    simp only [qM, rL, rS, rN] at this
    exact this
  · have := h.2.2.2
    simp only [stM, f 59 (by decide), f 60 (by decide)]
    exact this
/-- nothing but what a question may change: the class -/
def frC (I I' : HI) : Prop := (∀ a, a < 44 → ¬ a = 40 → I' a = I a) ∧ (∀ a, 79 < a → I' a = I a)
theorem frC_rf {I : HI} : frC I I := ⟨fun _ _ _ => rfl, fun _ _ => rfl⟩
theorem frC_c {I I1 I2 : HI} {c : Nat} (h1 : c = 40 ∨ 44 ≤ c) (h2 : c ≤ 79) (h : frC I I1) (hf : ∀ a, ¬ a = c → I2 a = I1 a) : frC I I2 := ⟨fun a a1 a2 => (hf a (by omega)).trans (h.1 a a1 a2), fun a ha => (hf a (by omega)).trans (h.2 a ha)⟩
theorem frC_u {I I1 : HI} {c k : Nat} {x : Int32} (h1 : c = 40 ∨ 44 ≤ c) (h2 : c ≤ 79) (h : frC I I1) : frC I (up I1 c k x) := frC_c h1 h2 h (fun a ha => up_ne _ _ _ _ ha)
theorem frC_tr {I I1 I2 : HI} (h : frC I I1) (h' : frC I1 I2) : frC I I2 := ⟨fun a a1 a2 => (h'.1 a a1 a2).trans (h.1 a a1 a2), fun a ha => (h'.2 a ha).trans (h.2 a ha)⟩
theorem cQ_fr {I I' : HI} {R : HR} {G T : SP} {N : Nat → List Nat} (hf : frC I I') (h : cQ I R G N T) : cQ I' R G N T := by
  have k : ∀ c, c < 44 → ¬ c = 40 → I' c = I c := hf.1
  obtain ⟨hs, ⟨p, hp1, hp2, hp3⟩, hm⟩ := h
  refine ⟨hs, ⟨p, hp1, hp2, ?_⟩, ?_⟩
  · rcases hp2 with rfl | rfl
    · simp only [pR, k 8 (by decide) (by decide), k (8 + 1) (by decide) (by decide), k (8 + 2) (by decide) (by decide), k (8 + 3) (by decide) (by decide)]
      exact hp3
    · simp only [pR, k 12 (by decide) (by decide), k (12 + 1) (by decide) (by decide), k (12 + 2) (by decide) (by decide), k (12 + 3) (by decide) (by decide)]
      exact hp3
  · obtain ⟨h1, h2, h3, h4, h5, h6, h7, h8⟩ := hm
    refine ⟨?_, slR_cg (k _ (by decide) (by decide)) (k _ (by decide) (by decide)) (k _ (by decide) (by decide)) h2, slR_cg (k _ (by decide) (by decide)) (k _ (by decide) (by decide)) (k _ (by decide) (by decide)) h3, slR_cg (k _ (by decide) (by decide)) (k _ (by decide) (by decide)) (k _ (by decide) (by decide)) h4, slR_cg (k _ (by decide) (by decide)) (k _ (by decide) (by decide)) (k _ (by decide) (by decide)) h5, tpR_cg (fun j hj => k _ (by omega) (by omega)) h6, tsR_cg (k _ (by decide) (by decide)) (k _ (by decide) (by decide)) h7, lpR_cg (congrFun (k 17 (by decide) (by decide)) 8) (k _ (by decide) (by decide)) h8⟩
    rw [k 17 (by decide) (by decide)]
    exact h1
section AT
variable {d : Nat} {I : HI} {J : HJ} {R : HR} {G T : SP} {D : Nat → Nat} {N : Nat → List Nat} {inp : Nat → Nat} {x1 x2 x3 : Int32}
theorem t_rowsThatShare {p r : Nat} {Q : Int32 → Prop} (hs : Stat R) (hp : isX5 p) (hw : wfG G D N) (hP : pR I p G) (hr : r < G 3 4) (h : Q (nI (smN (fun q => if mixB G r q = true then 1 else 0) (G 3 4)))) : Wp fi (d + 1) M_X5_rowsThatShare [.ref p, .int (nI r)] I J R Q := by
  refine ⟨Nat.le_of_ble_eq_true rfl, fun K hK => ?_⟩
  obtain ⟨w1, w2, w3, w4, w5, w6, w7, w8, w9, w10, w11, w12⟩ := id hw
  have loop : ∀ (m i : Nat), i + m = G 3 4 → K 4 [(0, .ref p), (1, .int (nI r)), (2, .int (nI (smN (fun q => if mixB G r q = true then 1 else 0) i))), (3, .int (nI i))] [] I J R := by
    intro m
    induction m with
    | zero =>
      intro i hi
      have hie : i = G 3 4 := by omega
      subst hie
      refine g_X5_rowsThatShare_4 hK hs hp ?_
      rw [hP.2.2.2.2.1]
      exact ⟨fun _ => h, fun hc => absurd (nI_le (Nat.le_refl _) (by omega)) hc⟩
    | succ m ih =>
      intro i hi
      refine g_X5_rowsThatShare_4 hK hs hp ?_
      rw [hP.2.2.2.2.1]
      refine ⟨fun hc => absurd hc (nI_ge (by omega) (by omega)), fun _ => ⟨fun hc => absurd hc (nI_pos (by omega)), fun _ => ⟨fun hc => absurd hc (nI_ge hr (by omega)), fun _ => ⟨i, rfl, by omega, r, rfl, by omega, ?_⟩⟩⟩⟩
      have hPi := hP.2.2.2.2.2.2.2 i (by omega)
      have hPr := hP.2.2.2.2.2.2.2 r hr
      have wi := w11 i (by omega)
      have wr := w11 r hr
      rw [hPi.1, hPi.2, hPr.1, hPr.2, nI_add, nI_add, nI_1, nI_1]
      have l1 : (nI (G 4 r + G 5 r) ≤ nI (G 4 i)) ↔ G 4 r + G 5 r ≤ G 4 i := nI_leI (by omega) (by omega)
      have l2 : (nI (G 4 i + G 5 i) ≤ nI (G 4 r)) ↔ G 4 i + G 5 i ≤ G 4 r := nI_leI (by omega) (by omega)
      rw [l1, l2]
      have nx := ih (i + 1) (by omega)
      simp only [smN] at nx
      refine ⟨fun c1 => ?_, fun c1 => ⟨fun c2 => ?_, fun c2 => ?_⟩⟩
      · rw [show mixB G r i = false from decide_eq_false (by omega), if_neg (by decide), Nat.add_zero] at nx
        exact nx
      · rw [show mixB G r i = false from decide_eq_false (by omega), if_neg (by decide), Nat.add_zero] at nx
        exact nx
      · rw [show mixB G r i = true from decide_eq_true (by omega), if_pos rfl] at nx
        exact nx
  exact g_X5_rowsThatShare_0 hK hs hp (loop (G 3 4) 0 (by omega))
theorem c_row {Q : Int32 → Prop} (hw : wfG G D N) (hc : cQ I R G N T) (h : Q (rowV G x1 x2)) : Wp fi (d + 2) M_X11_row [.ref 0, .int x1, .int x2] I J R Q := by
  obtain ⟨hs, ⟨p, hp1, hp2, hp3⟩, hm⟩ := id hc
  have h6 := hw.2.2.2.2.2.2.2.2.1
  refine e_X11_row hs ?_
  simp only [rowV] at h
  rcases xc x1 (G 3 4) (by omega) with ⟨c0, c1⟩ | ⟨c0, c1, c2, c3⟩ | ⟨k, ck, c0, c1, c2, c3, c4, c5⟩
  · rw [c1, if_neg (by decide)] at h
    exact ⟨fun _ => h, fun hc => absurd c0 hc⟩
  · rw [c3, if_neg (by decide)] at h
    refine ⟨fun _ => h, fun _ => ⟨p, hp1, hp2, ?_⟩⟩
    rw [hp3.2.2.2.2.1]
    exact ⟨fun hc => absurd hc c2, fun _ => h⟩
  · rw [c1, if_pos rfl, c2] at h
    refine ⟨fun hc => absurd hc c3, fun _ => ⟨p, hp1, hp2, ?_⟩⟩
    rw [hp3.2.2.2.2.1]
    have hk := hp3.2.2.2.2.2.2.2 k c0
    refine ⟨fun _ => ⟨fun e0 => ⟨k, ck, by omega, ?_⟩, fun e0 => ⟨fun e1 => ⟨k, ck, by omega, ?_⟩, fun e1 => ⟨fun e2 => ?_, fun e2 => ?_⟩⟩⟩, fun hc => absurd c5 hc⟩
    · rw [if_pos e0] at h
      rw [hk.2]
      exact h
    · rw [if_neg e0, if_pos e1] at h
      rw [hk.1]
      exact h
    · rw [if_neg e0, if_neg e1, if_pos e2] at h
      rw [ck]
      exact t_rowsThatShare hs hp2 hw hp3 c0 h
    · rw [if_neg e0, if_neg e1, if_neg e2] at h
      exact h
theorem x_012 {x : Int32} (h0 : ¬ x < 0) (h1 : x ≤ 2) : (x = 0 ∧ ¬ 2 ≤ x) ∨ (x = 1 ∧ ¬ 2 ≤ x ∧ ¬ x = 0) ∨ (x = 2 ∧ ¬ x = 0 ∧ ¬ x = 1) := by
  rw [x_lt0] at h0
  rw [show (2 : Int32) = nI 2 from rfl, x_len x (by decide)] at h1
  rw [show (2 : Int32) = nI 2 from rfl, show (1 : Int32) = nI 1 from rfl, show (0 : Int32) = nI 0 from rfl, x_eqn x (by decide), x_eqn x (by decide), x_eqn x (by decide), x_nle x (by decide)]
  omega
theorem x_n012 {x : Int32} (h : x < 0 ∨ ¬ x ≤ 2) : ¬ x = 0 ∧ ¬ x = 1 ∧ ¬ x = 2 := by
  rw [x_lt0, show (2 : Int32) = nI 2 from rfl, x_len x (by decide)] at h
  rw [show (2 : Int32) = nI 2 from rfl, show (1 : Int32) = nI 1 from rfl, show (0 : Int32) = nI 0 from rfl, x_eqn x (by decide), x_eqn x (by decide), x_eqn x (by decide)]
  omega
theorem m_row {Q : Int32 → HI → Prop} (hw : wfG G D N) (hr : rQ I J R G T) (h : Q (rowV G x1 x2) (up I 80 0 0)) : Wc fi (d + 2) M_X12_row [.ref 80, .int x1, .int x2] I J R Q := by
  refine ⟨Nat.le_of_ble_eq_true rfl, fun K hK => ?_⟩
  obtain ⟨w1, w2, w3, w4, w5, w6, w7, w8, w9, w10, w11, w12⟩ := id hw
  have hs := hr.1
  have hP := hr.2.1
  have hR : ∀ r, r < G 3 4 → (up I 80 0 0) 84 r = nI (G 4 r) ∧ (up I 80 0 0) 85 r = nI (G 5 r) := fun r q => by
    rw [up_na (by decide), up_na (by decide)]
    exact hP.2.2.2.2.2.2.2 r q
  have h33 : (up I 80 0 0) 80 33 = nI (G 3 4) := (up_nk (by decide)).trans hP.2.2.2.2.1
  refine g_X12_row_0 hK hs ?_
  rw [hP.2.2.2.2.1]
  simp only [rowV] at h
  rcases xc x1 (G 3 4) (by omega) with ⟨c0, c1⟩ | ⟨c0, c1, c2, c3⟩ | ⟨k, ck, c0, c1, c2, c3, c4, c5⟩
  · rw [c1, if_neg (by decide)] at h
    exact ⟨fun _ => h, fun hc => absurd c0 hc⟩
  · rw [c3, if_neg (by decide)] at h
    exact ⟨fun _ => h, fun _ => ⟨fun _ => h, fun hc => absurd c1 hc⟩⟩
  · rw [c1, if_pos rfl, c2] at h
    have hk := hR k c0
    refine ⟨fun hc => absurd hc c3, fun _ => ⟨fun hc => absurd hc c4, fun _ => ⟨fun e => ?_, fun e => ⟨fun e2 => ?_, fun e2 => ?_⟩⟩⟩⟩
    · obtain ⟨n0, n1, n2⟩ := x_n012 (Or.inl e)
      rw [if_neg n0, if_neg n1, if_neg n2] at h
      exact h
    · rcases x_012 e e2 with ⟨y0, y1⟩ | ⟨y0, y1, y2⟩ | ⟨y0, y1, y2⟩
      · rw [if_pos y0] at h
        refine ⟨fun hc => absurd hc y1, fun _ => ⟨fun hc => absurd y0 hc, fun _ => ⟨k, ck, by omega, ?_⟩⟩⟩
        rw [← up_na (f := I) (a := 80) (k := 0) (v := (0 : Int32)) (show ¬ 85 = 80 by decide), hk.2]
        exact h
      · rw [if_neg y2, if_pos y0] at h
        refine ⟨fun hc => absurd hc y1, fun _ => ⟨fun _ => ⟨k, ck, by omega, ?_⟩, fun hc => absurd hc y2⟩⟩
        rw [← up_na (f := I) (a := 80) (k := 0) (v := (0 : Int32)) (show ¬ 84 = 80 by decide), hk.1]
        exact h
      · rw [if_neg y1, if_neg y2, if_pos y0] at h
        refine ⟨fun _ => ?_, fun hc => absurd (by rw [y0]; decide) hc⟩
        rw [ck]
        have loop : ∀ (m i : Nat), i + m = G 3 4 → K 58 [(0, .ref 80), (1, .int (nI k)), (3, .int (nI (smN (fun q => if mixB G k q = true then 1 else 0) i))), (4, .int (nI i))] [] (up I 80 0 0) J R := by
          intro m
          induction m with
          | zero =>
            intro i hi
            have hie : i = G 3 4 := by omega
            subst hie
            refine g_X12_row_58 hK hs ?_
            rw [h33]
            exact ⟨fun _ => h, fun hc => absurd (nI_le (Nat.le_refl _) (by omega)) hc⟩
          | succ m ih =>
            intro i hi
            refine g_X12_row_58 hK hs ?_
            rw [h33]
            refine ⟨fun hc => absurd hc (nI_ge (by omega) (by omega)), fun _ => ?_⟩
            refine e_X12_areMixed hs ⟨k, rfl, by omega, i, rfl, by omega, ?_⟩
            have hi2 := hR i (by omega)
            have wi := w11 i (by omega)
            have wr := w11 k c0
            rw [hk.1, hk.2, hi2.1, hi2.2, nI_add, nI_add, nI_1, nI_1]
            have l1 : (nI (G 4 k + G 5 k) ≤ nI (G 4 i)) ↔ G 4 k + G 5 k ≤ G 4 i := nI_leI (by omega) (by omega)
            have l2 : (nI (G 4 i + G 5 i) ≤ nI (G 4 k)) ↔ G 4 i + G 5 i ≤ G 4 k := nI_leI (by omega) (by omega)
            have nx := ih (i + 1) (by omega)
            simp only [smN] at nx
            rw [l1, l2, show ∀ z : Nat, nI z + 0 = nI (z + 0) from fun z => nI_add z 0]
            refine ⟨fun c2 => ?_, fun c2 => ⟨fun c1 => ?_, fun c1 => ?_⟩⟩
            · rw [show mixB G k i = false from decide_eq_false (by omega), if_neg (by decide)] at nx
              exact ⟨fun _ => nx, fun hc => absurd hc (by decide)⟩
            · rw [show mixB G k i = false from decide_eq_false (by omega), if_neg (by decide)] at nx
              exact ⟨fun _ => nx, fun hc => absurd hc (by decide)⟩
            · rw [show mixB G k i = true from decide_eq_true (by omega), if_pos rfl] at nx
              exact ⟨fun hc => absurd hc (by decide), fun _ => nx⟩
        exact loop (G 3 4) 0 (by omega)
    · obtain ⟨n0, n1, n2⟩ := x_n012 (Or.inr e2)
      rw [if_neg n0, if_neg n1, if_neg n2] at h
      exact h
end AT
