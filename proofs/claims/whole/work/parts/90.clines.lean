/-! the class's Parser: LINES -/
section CF
variable {d : Nat} {I : HI} {J : HJ} {R : HR} {B : Nat → Nat} {n p : Nat} {P : SP}
theorem x5_ne {p : Nat} (hp : isX5 p) : ¬ p = 7 ∧ ¬ p = 3 ∧ ¬ p = 1 ∧ ¬ p = 2 ∧ ¬ p = 4 ∧ ¬ p = 5 ∧ ¬ p = 6 ∧ 7 < p := by rcases hp with rfl | rfl <;> decide
theorem cS_pf {j k v : Nat} (hp : isX5 p) (hjk : (k = 2 ∧ j = 5) ∨ (k = 3 ∧ j = 6) ∨ (k = 6 ∧ j = 9)) (hS : cS I p n B P) : cS (up I p k (nI v)) p n B (up P 0 j v) := by
  obtain ⟨s1, s2, s3, s4, s5, s6, s7, s8⟩ := hS
  have hx := x5_ne hp
  have e : ∀ c, ¬ c = p → up I p k (nI v) c = I c := fun c hc => up_ne _ _ _ _ hc
  have f : ∀ i, ¬ i = j → up P 0 j v 0 i = P 0 i := fun i hi => up_nk hi
  have c : ∀ c, ¬ c = 0 → up P 0 j v c = P c := fun c hc => upc_ne hc
  refine ⟨scR_I (e 7 (by omega)) (scR_cg (fun i hi => f i (by omega)) s1), ?_, ?_, ?_, ?_, ?_, ?_, ?_⟩
  · rw [e 1 (by omega)]; exact s2
  · rcases hjk with ⟨rfl, rfl⟩ | ⟨rfl, rfl⟩ | ⟨rfl, rfl⟩
    · rw [f 4 (by decide), f 6 (by decide), f 7 (by decide), f 8 (by decide), f 9 (by decide), up_s, up_s, up_nk (by decide), up_nk (by decide), up_nk (by decide), up_nk (by decide), up_nk (by decide)]
      exact ⟨s3.1, rfl, s3.2.2⟩
    · rw [f 4 (by decide), f 5 (by decide), f 7 (by decide), f 8 (by decide), f 9 (by decide), up_s, up_s, up_nk (by decide), up_nk (by decide), up_nk (by decide), up_nk (by decide), up_nk (by decide)]
      exact ⟨s3.1, s3.2.1, rfl, s3.2.2.2⟩
    · rw [f 4 (by decide), f 5 (by decide), f 6 (by decide), f 7 (by decide), f 8 (by decide), up_s, up_s, up_nk (by decide), up_nk (by decide), up_nk (by decide), up_nk (by decide), up_nk (by decide)]
      exact ⟨s3.1, s3.2.1, s3.2.2.1, s3.2.2.2.1, s3.2.2.2.2.1, rfl⟩
  · rw [e 2 (by omega), f 10 (by omega), f 11 (by omega)]; exact s4
  · rw [e (p + 1) (by omega), f 4 (by omega), c 1 (by decide), c 2 (by decide), c 3 (by decide)]; exact s5
  · rw [e (p + 2) (by omega), e (p + 3) (by omega), e 4 (by omega), f 8 (by omega), c 5 (by decide), c 6 (by decide), c 7 (by decide)]; exact s6
  · rw [e 3 (by omega), f 7 (by omega), c 4 (by decide)]; exact s7
  · rw [e 5 (by omega), e 6 (by omega), f 10 (by omega), c 8 (by decide), c 9 (by decide)]; exact s8
theorem cS_2f {j k v : Nat} (hp : isX5 p) (hjk : (k = 6 ∧ j = 10 ∧ v ≤ P 0 10) ∨ (k = 7 ∧ j = 11)) (hS : cS I p n B P) : cS (up I 2 k (nI v)) p n B (up P 0 j v) := by
  obtain ⟨s1, s2, s3, s4, s5, s6, s7, s8⟩ := hS
  have hx := x5_ne hp
  have e : ∀ c, ¬ c = 2 → up I 2 k (nI v) c = I c := fun c hc => up_ne _ _ _ _ hc
  have f : ∀ i, ¬ i = j → up P 0 j v 0 i = P 0 i := fun i hi => up_nk hi
  have c : ∀ c, ¬ c = 0 → up P 0 j v c = P c := fun c hc => upc_ne hc
  refine ⟨scR_I (e 7 (by omega)) (scR_cg (fun i hi => f i (by omega)) s1), ?_, ?_, ?_, ?_, ?_, ?_, ?_⟩
  · rw [e 1 (by omega)]; exact s2
  · rw [e p (by omega), f 4 (by omega), f 5 (by omega), f 6 (by omega), f 7 (by omega), f 8 (by omega), f 9 (by omega)]; exact s3
  · rcases hjk with ⟨rfl, rfl, _⟩ | ⟨rfl, rfl⟩
    · rw [up_s, up_s, up_nk (by decide), f 11 (by decide), up_nk (by decide), up_nk (by decide)]
      exact ⟨rfl, s4.2⟩
    · rw [up_s, up_s, up_nk (by decide), f 10 (by decide), up_nk (by decide), up_nk (by decide)]
      exact ⟨s4.1, rfl, s4.2.2⟩
  · rw [e (p + 1) (by omega), f 4 (by omega), c 1 (by decide), c 2 (by decide), c 3 (by decide)]; exact s5
  · rw [e (p + 2) (by omega), e (p + 3) (by omega), e 4 (by omega), f 8 (by omega), c 5 (by decide), c 6 (by decide), c 7 (by decide)]; exact s6
  · rw [e 3 (by omega), f 7 (by omega), c 4 (by decide)]; exact s7
  · rw [e 5 (by omega), e 6 (by omega), c 8 (by decide), c 9 (by decide)]
    intro b hb
    rcases hjk with ⟨rfl, rfl, hv⟩ | ⟨rfl, rfl⟩
    · rw [up_s] at hb
      exact s8 b (by omega)
    · rw [f 10 (by decide)] at hb
      exact s8 b hb
theorem t_cnn {Q : Bool → HI → Prop} (hs : Stat R) (hp : isX5 p) (hR : R 2 1 = some p) (h1 : okB n P) (hS : cS I p n B P) (hq : isNm P = true → vrO P = none → rwO P = none → Q true I) (he : ∀ k, (∀ r, nnS P r = flt k P) → rC Q I p n B (flt k P)) : Wc fb (d + 2) M_X4_newName [.ref 2] I J R Q := by
  refine e_X4_newName hs ?_
  refine t_isName hs h1 hS ⟨fun z => ?_, fun z => ?_⟩
  · refine t_variableOf (y := false) hs hp hR h1 hS (isNm_t z) (fun v hv => ?_) (fun hv _ => ?_) (fun _ w => absurd w (by decide))
    · refine ⟨fun _ => t_fl (k := 3) hs hS (he 3 (fun r => by simp only [nnS]; rw [z, if_pos rfl, hv, if_neg (by simp)])), fun w => absurd w (nI_m1 ?_)⟩
      have := (vrO_s hv).1
      have := h1.2.2.1
      omega
    · refine ⟨fun w => absurd rfl w, fun _ => t_rowOf hs hp hR h1 hS (isNm_t z) ?_⟩
      cases hr : rwO P with
      | none => exact ⟨fun _ => hq z hv hr, fun w => absurd rfl w⟩
      | some r =>
        refine ⟨fun w => absurd w (nI_m1 ?_), fun _ => t_fl (k := 3) hs hS (he 3 (fun r' => by simp only [nnS]; rw [z, if_pos rfl, hv, if_pos rfl, hr, if_neg (by simp)]))⟩
        have := (rwO_s hr).1
        have := h1.2.2.1
        omega
  · exact t_fl (k := 1) hs hS (he 1 (fun r => by simp only [nnS]; rw [z, if_neg (by decide)]))
theorem t_cnum {a b : Nat} {Q : Bool → HI → Prop} (hs : Stat R) (ha : a < 100) (hb : b < 100) (h1 : okB n P) (hS : cS I p n B P) (hq : P 0 0 = 2 → a ≤ P 0 1 → P 0 1 ≤ b → Q true I) (he : ∀ k, (∀ r, numS a b P r = flt k P) → rC Q I p n B (flt k P)) : Wc fb (d + 2) M_X4_numberWithin [.ref 2, .int (nI a), .int (nI b)] I J R Q := by
  refine e_X4_numberWithin hs ?_
  rw [(cS_2 hS).1]
  have no2 : ∀ {Q' : Bool → HI → Prop}, (∀ I', Q false I' → Q' false I') → (∀ r, numS a b P r = flt 2 P) → Wc fb (d + 1) M_X4_fail [.ref 2, .int 2] I J R Q' := by
    intro Q' hq' hr
    refine t_fl (k := 2) hs hS ?_
    have := he 2 hr
    exact fun I' e1 e2 e3 => hq' I' (this I' e1 e2 e3)
  refine ⟨fun z => ?_, fun z => t_fl (k := 1) hs hS (he 1 (fun r => by simp only [numS]; rw [if_neg z]))⟩
  have hv := h1.1.2.2.2.1 z
  rw [(cS_2 hS).2 z, nI_ltI (by omega) (by omega), nI_leI (by omega) (by omega)]
  refine ⟨fun y => no2 (fun I' q => ⟨fun _ => q, fun w => absurd w (by decide)⟩) (fun r => by simp only [numS]; rw [if_pos z, if_pos y]), fun y => ⟨fun y2 => hq z (by omega) y2, fun y2 => no2 (fun I' q => ⟨fun _ => q, fun w => absurd w (by decide)⟩) (fun r => by simp only [numS]; rw [if_pos z, if_neg y, if_neg y2])⟩⟩
theorem t_carw {w f z : Nat} {Q : Unit → HI → Prop} (hs : Stat R) (hp : isX5 p) (hR : R 2 1 = some p) (h8 : P 0 8 < 6) (hS : cS I p n B P) (h : ∀ I', cS I' p n B (arw w f z P) → frP p I I' → I' 7 = I 7 → I' p 6 = I p 6 → Q () I') : Wc fv (d + 2) M_X4_addRow [.ref 2, .int (nI (cv w)), .int (nI f), .int (nI z)] I J R Q := by
  obtain ⟨s1, s2, s3, s4, s5, s6, s7, s8⟩ := hS
  have hx := x5_ne hp
  have hr := s3.2.2.2.2.1
  refine e_X4_addRow hs ⟨p, hR, hp, ?_⟩
  rw [hr]
  refine ⟨fun q => absurd q (nI_ge (b := 6) h8 (by decide)), fun _ => ⟨P 0 8, rfl, h8, ?_⟩⟩
  refine e_X5_addRow hs hp ?_
  have hr1 : up I 4 (P 0 8) (nI (cv w)) p 5 = nI (P 0 8) := by rw [up_na (by omega)]; exact hr
  rw [hr1]
  refine ⟨fun q => absurd q (nI_ge (b := 6) h8 (by decide)), fun _ => ⟨P 0 8, rfl, h8, ?_⟩⟩
  rw [nI_1]
  have e : ∀ c, ¬ c = p → ¬ c = p + 3 → ¬ c = p + 2 → ¬ c = 4 → up (up (up (up I 4 (P 0 8) (nI (cv w))) (p + 2) (P 0 8) (nI f)) (p + 3) (P 0 8) (nI z)) p 5 (nI (P 0 8 + 1)) c = I c := fun c a1 a2 a3 a4 => by rw [up_ne _ _ _ _ a1, up_ne _ _ _ _ a2, up_ne _ _ _ _ a3, up_ne _ _ _ _ a4]
  have ep : ∀ j, ¬ j = 5 → up (up (up (up I 4 (P 0 8) (nI (cv w))) (p + 2) (P 0 8) (nI f)) (p + 3) (P 0 8) (nI z)) p 5 (nI (P 0 8 + 1)) p j = I p j := fun j hj => by rw [up_nk hj, up_na (by omega), up_na (by omega), up_na (by omega)]
  refine h _ ⟨scR_I (e 7 (by omega) (by omega) (by omega) (by omega)) (scR_cg (fun i hi => arw_0 (by omega)) s1), ?_, ?_, ?_, ?_, fun r hr' => ?_, ?_, ?_⟩ (frP_u (Or.inr (by omega)) (frP_u (Or.inr (by omega)) (frP_u (Or.inr (by omega)) (frP_u (Or.inl (by omega)) frP_rf)))) (e 7 (by omega) (by omega) (by omega) (by omega)) (ep 6 (by decide))
  · rw [e 1 (by omega) (by omega) (by omega) (by omega)]; exact s2
  · rw [arw_0 (j := 4) (by decide), arw_0 (j := 5) (by decide), arw_0 (j := 6) (by decide), arw_0 (j := 7) (by decide), arw_8, arw_0 (j := 9) (by decide), ep 1 (by decide), ep 2 (by decide), ep 3 (by decide), ep 4 (by decide), ep 6 (by decide), up_s]
    exact ⟨s3.1, s3.2.1, s3.2.2.1, s3.2.2.2.1, rfl, s3.2.2.2.2.2⟩
  · rw [e 2 (by omega) (by omega) (by omega) (by omega), arw_0 (by decide), arw_0 (by decide)]; exact s4
  · rw [e (p + 1) (by omega) (by omega) (by omega) (by omega), arw_0 (by decide), arw_c (c := 1) (by decide) (by decide) (by decide) (by decide), arw_c (c := 2) (by decide) (by decide) (by decide) (by decide), arw_c (c := 3) (by decide) (by decide) (by decide) (by decide)]; exact s5
  · rw [arw_8] at hr'
    rw [arw_5, arw_6, arw_7]
    simp only [up_ap]
    by_cases hrr : r = P 0 8
    · rw [if_pos hrr, if_pos hrr, if_pos hrr]
      refine ⟨?_, ?_, ?_⟩
      · rw [if_neg (by omega), if_neg (by omega), if_pos ⟨trivial, hrr⟩]
      · rw [if_neg (by omega), if_pos ⟨trivial, hrr⟩]
      · rw [if_neg (by omega), if_neg (by omega), if_neg (by omega), if_pos ⟨trivial, hrr⟩]
    · rw [if_neg hrr, if_neg hrr, if_neg hrr]
      have := s6 r (by omega)
      refine ⟨?_, ?_, ?_⟩
      · rw [if_neg (by omega), if_neg (by omega), if_neg (by omega), if_neg (by omega)]; exact this.1
      · rw [if_neg (by omega), if_neg (by omega), if_neg (by omega), if_neg (by omega)]; exact this.2.1
      · rw [if_neg (by omega), if_neg (by omega), if_neg (by omega), if_neg (by omega)]; exact this.2.2
  · rw [e 3 (by omega) (by omega) (by omega) (by omega), arw_0 (by decide), arw_c (c := 4) (by decide) (by decide) (by decide) (by decide)]; exact s7
  · rw [e 5 (by omega) (by omega) (by omega) (by omega), e 6 (by omega) (by omega) (by omega) (by omega), arw_0 (by decide), arw_c (c := 8) (by decide) (by decide) (by decide) (by decide), arw_c (c := 9) (by decide) (by decide) (by decide) (by decide)]; exact s8
theorem t_copn {k : Nat} {Q : Unit → HI → Prop} (hs : Stat R) (hp : isX5 p) (hR : R 2 1 = some p) (h4 : P 0 10 < 4) (hS : cS I p n B P) (h : ∀ I', cS I' p n B (opn k P) → frP p I I' → I' 7 = I 7 → Q () I') : Wc fv (d + 1) M_X4_openBlock [.ref 2, .int (nI k)] I J R Q := by
  obtain ⟨s1, s2, s3, s4, s5, s6, s7, s8⟩ := hS
  have hx := x5_ne hp
  refine e_X4_openBlock hs ?_
  rw [s4.1]
  refine ⟨fun q => absurd q (nI_pos (by omega)), fun _ => ⟨fun q => absurd q (nI_ge (b := 4) h4 (by decide)), fun _ => ⟨P 0 10, rfl, h4, p, hR, hp, ?_⟩⟩⟩
  have e1 : up I 5 (P 0 10) (nI k) p 1 = nI (P 0 4) := by rw [up_na (by omega)]; exact s3.1
  rw [e1, nI_1]
  have e : ∀ c, ¬ c = 2 → ¬ c = 6 → ¬ c = 5 → up (up (up I 5 (P 0 10) (nI k)) 6 (P 0 10) (nI (P 0 4))) 2 6 (nI (P 0 10 + 1)) c = I c := fun c a1 a2 a3 => by rw [up_ne _ _ _ _ a1, up_ne _ _ _ _ a2, up_ne _ _ _ _ a3]
  refine h _ ⟨scR_I (e 7 (by omega) (by omega) (by omega)) (scR_cg (fun i hi => opn_0 (by omega)) s1), ?_, ?_, ?_, ?_, ?_, ?_, fun b hb => ?_⟩ (frP_u (Or.inl (by omega)) (frP_u (Or.inl (by omega)) (frP_u (Or.inl (by omega)) frP_rf))) (e 7 (by omega) (by omega) (by omega))
  · rw [e 1 (by omega) (by omega) (by omega)]; exact s2
  · rw [e p (by omega) (by omega) (by omega), opn_0 (j := 4) (by decide), opn_0 (j := 5) (by decide), opn_0 (j := 6) (by decide), opn_0 (j := 7) (by decide), opn_0 (j := 8) (by decide), opn_0 (j := 9) (by decide)]; exact s3
  · have e2 : ∀ j, ¬ j = 6 → up (up (up I 5 (P 0 10) (nI k)) 6 (P 0 10) (nI (P 0 4))) 2 6 (nI (P 0 10 + 1)) 2 j = I 2 j := fun j hj => by rw [up_nk hj, up_na (by decide), up_na (by decide)]
    rw [opn_10, opn_0 (j := 11) (by decide), up_s, e2 7 (by decide), e2 8 (by decide), e2 9 (by decide)]
    exact ⟨rfl, s4.2⟩
  · rw [e (p + 1) (by omega) (by omega) (by omega), opn_0 (by decide), opn_c (c := 1) (by decide) (by decide) (by decide), opn_c (c := 2) (by decide) (by decide) (by decide), opn_c (c := 3) (by decide) (by decide) (by decide)]; exact s5
  · rw [e (p + 2) (by omega) (by omega) (by omega), e (p + 3) (by omega) (by omega) (by omega), e 4 (by omega) (by omega) (by omega), opn_0 (by decide), opn_c (c := 5) (by decide) (by decide) (by decide), opn_c (c := 6) (by decide) (by decide) (by decide), opn_c (c := 7) (by decide) (by decide) (by decide)]; exact s6
  · rw [e 3 (by omega) (by omega) (by omega), opn_0 (by decide), opn_c (c := 4) (by decide) (by decide) (by decide)]; exact s7
  · rw [opn_10] at hb
    rw [opn_8, opn_9, up_na (b := 5) (by decide), up_na (b := 5) (by decide), up_na (b := 6) (by decide)]
    by_cases hbb : b = P 0 10
    · rw [if_pos hbb, if_pos hbb, hbb, up_s, up_s]
      exact ⟨rfl, rfl⟩
    · rw [if_neg hbb, if_neg hbb, up_nk hbb, up_nk hbb, up_na (by decide)]
      exact s8 b (by omega)
theorem t_cpat {i : Nat} {Q : Unit → HI → Prop} (hs : Stat R) (hp : isX5 p) (hn : P 0 4 ≤ 900) (hi : i < P 0 4) (ho : P 1 i < 16) (ha : P 2 i < 10000) (hm : P 3 i < 64) (hS : cS I p n B P) (h : ∀ I', cS I' p n B (pat i P) → frP p I I' → I' 7 = I 7 → Q () I') : Wc fv (d + 1) M_X5_leadHere [.ref p, .int (nI i)] I J R Q := by
  obtain ⟨s1, s2, s3, s4, s5, s6, s7, s8⟩ := hS
  have hx := x5_ne hp
  refine t_leadHere hs hp s3.1 hn hi (s5 i hi) (by simp only [pk]; omega) ?_
  have ev : 1024 * P 0 4 + pk (P 1 i) (P 2 i) (P 3 i) % 1024 = pk (P 1 i) (P 0 4) (P 3 i) := by simp only [pk]; omega
  rw [ev]
  have e : ∀ c, ¬ c = p + 1 → up I (p + 1) i (nI (pk (P 1 i) (P 0 4) (P 3 i))) c = I c := fun c a1 => up_ne _ _ _ _ a1
  have f : pat i P 0 = P 0 := upc_ne (by decide)
  have c : ∀ c, ¬ c = 2 → pat i P c = P c := fun c hc => upc_ne hc
  refine h _ ⟨by rw [f]; exact scR_I (e 7 (by omega)) s1, ?_, ?_, ?_, fun j hj => ?_, ?_, ?_, ?_⟩ (frP_u (Or.inr (by omega)) frP_rf) (e 7 (by omega))
  · rw [e 1 (by omega)]; exact s2
  · rw [e p (by omega), f]; exact s3
  · rw [e 2 (by omega), f]; exact s4
  · rw [f] at hj
    rw [c 1 (by decide), c 3 (by decide)]
    by_cases hji : j = i
    · rw [hji, up_s, pat, up_s]
    · rw [up_nk hji, pat, up_nk hji]
      exact s5 j hj
  · rw [e (p + 2) (by omega), e (p + 3) (by omega), e 4 (by omega), f, c 5 (by decide), c 6 (by decide), c 7 (by decide)]; exact s6
  · rw [e 3 (by omega), f, c 4 (by decide)]; exact s7
  · rw [e 5 (by omega), e 6 (by omega), f, c 8 (by decide), c 9 (by decide)]; exact s8
theorem cS_adv' {I' : HI} (hp : isX5 p) (hS : cS I p n B P) (f2 : ∀ c, ¬ c = 7 → I' c = I c) (g2 : scR I' n (tkF B n (P 0 3))) : cS I' p n B (adv B n P) := by
  obtain ⟨s1, s2, s3, s4, s5, s6, s7, s8⟩ := hS
  have hx := x5_ne hp
  refine ⟨scR_cg (fun j hj => adv_t hj) g2, ?_, ?_, ?_, ?_, ?_, ?_, ?_⟩
  · rw [f2 1 (by decide)]; exact s2
  · rw [f2 p (by omega), adv_f (by decide), adv_f (by decide), adv_f (by decide), adv_f (by decide), adv_f (by decide), adv_f (by decide)]; exact s3
  · rw [f2 2 (by decide), adv_f (by decide), adv_f (by decide)]; exact s4
  · rw [f2 (p + 1) (by omega), adv_f (by decide), adv_c (by decide), adv_c (by decide), adv_c (by decide)]; exact s5
  · rw [f2 (p + 2) (by omega), f2 (p + 3) (by omega), f2 4 (by decide), adv_f (by decide), adv_c (by decide), adv_c (by decide), adv_c (by decide)]; exact s6
  · rw [f2 3 (by decide), adv_f (by decide), adv_c (by decide)]; exact s7
  · rw [f2 5 (by decide), f2 6 (by decide), adv_f (by decide), adv_c (by decide), adv_c (by decide)]; exact s8
/-- advance where only the TOKEN's end is known to be in the TEXT -/
theorem t_adv' {Q : Unit → HI → Prop} (hs : Stat R) (hp : isX5 p) (hn : n ≤ 900) (hB : ∀ j, B j < 256) (h3 : P 0 3 ≤ n) (hS : cS I p n B P) (h : ∀ I', cS I' p n B (adv B n P) → (∀ c, ¬ c = 7 → I' c = I c) → Q () I') : Wc fv (d + 1) M_X6_advance [.ref 7] I J R Q :=
  t_advance (p := P 0 3) hs hn h3 hS.1.1 hS.1.2.1 hS.2.1 hB (fun I' f1 f2 => h I' (cS_adv' hp hS f1 f2) f1)
theorem t_cin {Q : Bool → HI → Prop} (hs : Stat R) (hp : isX5 p) (hR : R 2 1 = some p) (hn : n ≤ 900) (hB : ∀ j, B j < 256) (h1 : okL n P) (hl : P 0 11 = 0) (hS : cS I p n B P) (h : rC Q I p n B (inS B n P)) : Wc fb (d + 3) M_X4_inputLine [.ref 2] I J R Q := by
  refine e_X4_inputLine hs ⟨p, hR, hp, ?_⟩
  have hc := h1.1.2.2.1
  rw [hS.2.2.1.2.2.1]
  have cl : (nI (P 0 6) < (4 : Int32)) ↔ P 0 6 < 4 := nI_ltI (b := 4) (by omega) (by decide)
  rw [cl]
  simp only [inS] at h
  refine ⟨fun z => ?_, fun z => ?_⟩
  · rw [if_neg (by omega)] at h
    refine t_adv hs hp hn hB h1.1 hS (fun I1 hS1 f1 => ?_)
    have a1 := adv_okB (B := B) h1.1
    have h' := rC_mono (p := p) (frP_7 f1) h
    have c1 := a1.2.2.1
    refine t_cnn hs hp hR a1 hS1 (fun q1 q2 q3 => ⟨fun _ => ?_, fun w => absurd w (by decide)⟩) (fun k hk => ?_)
    · have e : nnS (adv B n P) (fun P1 => .ok (adv B n (up (nvr P1) 0 6 (P1 0 6 + 1)))) = .ok (adv B n (up (nvr (adv B n P)) 0 6 (adv B n P 0 6 + 1))) := by
        simp only [nnS]
        rw [q1, if_pos rfl, q2, if_pos rfl, q3, if_pos rfl]
      rw [e] at h'
      have e11 : adv B n P 0 11 = 0 := by rw [adv_f (by decide)]; exact hl
      have e67 := c1.2.2.2.2.2.2.2 e11
      have e6 : adv B n P 0 6 < 4 := by rw [adv_f (by decide)]; exact z
      refine t_variableOf (y := true) hs hp hR a1 hS1 (isNm_t q1) (fun v hv => by rw [q2] at hv; cases hv) (fun _ w => ?_) (fun _ _ _ I2 hS2 f2 => ?_)
      · rcases w with w | w
        · cases w
        · omega
      · have hS3 := cS_pf (k := 3) (j := 6) (v := adv B n P 0 6 + 1) hp (Or.inr (Or.inl ⟨rfl, rfl⟩)) hS2
        have i3 : I2 p 3 = nI (adv B n P 0 6) := by rw [hS2.2.2.1.2.2.1, nvr_0 (by decide)]
        rw [i3, nI_1]
        refine t_adv' hs hp hn hB ?_ hS3 (fun I4 hS4 f4 => h' I4 hS4 (frP_tr f2 (frP_tr (frP_u (Or.inr (by omega)) frP_rf) (frP_7 f4))))
        rw [up_nk (by decide), nvr_0 (by decide)]
        exact a1.1.2.1
    · rw [hk] at h'
      exact fun I2 e1 e2 e3 => ⟨fun w => absurd w (by decide), fun _ => h' I2 e1 e2 e3⟩
  · rw [if_pos (by omega)] at h
    exact t_fl (k := 2) hs hS h
theorem t_crn {Q : Bool → HI → Prop} {r : SP → RS} (hs : Stat R) (hp : isX5 p) (hR : R 2 1 = some p) (hn : n ≤ 900) (hB : ∀ j, B j < 256) (h1 : okB n P) (hS : cS I p n B P) (hq : P 0 8 < 6 → isNm (adv B n P) = true → vrO (adv B n P) = none → rwO (adv B n P) = none → ∀ I1, cS I1 p n B (adv B n P) → frP p I I1 → Q true I1) (he : ∀ e, (if P 0 8 = 6 then flt 2 P else nnS (adv B n P) r) = .error e → rC Q I p n B (.error e)) : Wc fb (d + 3) M_X4_newRowName [.ref 2] I J R Q := by
  refine e_X4_newRowName hs ⟨p, hR, hp, ?_⟩
  have hc := h1.2.2.1
  rw [hS.2.2.1.2.2.2.2.1]
  have cl : (nI (P 0 8) < (6 : Int32)) ↔ P 0 8 < 6 := nI_ltI (b := 6) (by omega) (by decide)
  rw [cl]
  refine ⟨fun z => ?_, fun z => ?_⟩
  · rw [if_neg (by omega)] at he
    refine t_adv hs hp hn hB h1 hS (fun I1 hS1 f1 => ?_)
    refine t_cnn hs hp hR (adv_okB h1) hS1 (fun q1 q2 q3 => hq z q1 q2 q3 I1 hS1 (frP_7 f1)) (fun k hk => rC_mono (frP_7 f1) (he _ (hk r)))
  · rw [if_pos (by omega)] at he
    exact t_fl (k := 2) hs hS (he _ rfl)
theorem t_crow {Q : Bool → HI → Prop} (hs : Stat R) (hp : isX5 p) (hR : R 2 1 = some p) (hn : n ≤ 900) (hB : ∀ j, B j < 256) (h1 : okB n P) (hS : cS I p n B P) (h : rC Q I p n B (rowS B n P)) : Wc fb (d + 4) M_X4_rowLine [.ref 2] I J R Q := by
  refine e_X4_rowLine hs ?_
  refine t_crn (r := fun P1 => numS 1 8 (adv B n P1) (fun P2 => .ok (adv B n (up (arw (P1 0 1) (P2 0 9) (P2 0 1) P2) 0 9 (P2 0 9 + P2 0 1))))) hs hp hR hn hB h1 hS (fun z q1 q2 q3 I1 hS1 f1 => ⟨fun _ => ?_, fun w => absurd w (by decide)⟩) (fun e he => ?_)
  · simp only [rowS] at h
    rw [if_neg (by omega)] at h
    simp only [nnS] at h
    rw [q1, if_pos rfl, q2, if_pos rfl, q3, if_pos rfl] at h
    have a1 := adv_okB (B := B) h1
    have a2 := adv_okB (B := B) a1
    refine t_adv hs hp hn hB a1 hS1 (fun I2 hS2 f2 => ?_)
    have f12 := frP_tr f1 (frP_7 f2)
    refine t_cnum (a := 1) (b := 8) hs (by decide) (by decide) a2 hS2 (fun k1 k2 k3 => ⟨fun _ => ⟨p, hR, hp, ?_⟩, fun w => absurd w (by decide)⟩) (fun k hk => ?_)
    · have e : numS 1 8 (adv B n (adv B n P)) (fun P2 => .ok (adv B n (up (arw (adv B n P 0 1) (P2 0 9) (P2 0 1) P2) 0 9 (P2 0 9 + P2 0 1)))) = .ok (adv B n (up (arw (adv B n P 0 1) (adv B n (adv B n P) 0 9) (adv B n (adv B n P) 0 1) (adv B n (adv B n P))) 0 9 (adv B n (adv B n P) 0 9 + adv B n (adv B n P) 0 1))) := by
        simp only [numS]
        rw [if_pos k1, if_neg (by omega), if_pos k3]
      rw [e] at h
      rw [cS_w hS1 (isNm_t q1), (cS_2 hS2).2 k1, hS2.2.2.1.2.2.2.2.2]
      refine t_carw hs hp hR (by rw [adv_f (by decide), adv_f (by decide)]; exact z) hS2 (fun I3 hS3 f3 g3 g4 => ?_)
      rw [g3, g4, (cS_2 hS2).2 k1, hS2.2.2.1.2.2.2.2.2, nI_add]
      have hS4 := cS_pf (k := 6) (j := 9) (v := adv B n (adv B n P) 0 9 + adv B n (adv B n P) 0 1) hp (Or.inr (Or.inr ⟨rfl, rfl⟩)) hS3
      refine t_adv' hs hp hn hB ?_ hS4 (fun I5 hS5 f5 => h I5 hS5 (frP_tr f12 (frP_tr f3 (frP_tr (frP_u (Or.inr (by omega)) frP_rf) (frP_7 f5)))))
      rw [up_nk (by decide), arw_0 (by decide)]
      exact a2.1.2.1
    · rw [hk] at h
      exact fun I3 e1 e2 e3 => ⟨fun w => absurd w (by decide), fun _ => h I3 e1 e2 (frP_tr f12 e3)⟩
  · have : rowS B n P = .error e := he
    rw [this] at h
    exact fun I3 e1 e2 e3 => ⟨fun w => absurd w (by decide), fun _ => h I3 e1 e2 e3⟩
theorem t_cali {Q : Bool → HI → Prop} (hs : Stat R) (hp : isX5 p) (hR : R 2 1 = some p) (hn : n ≤ 900) (hB : ∀ j, B j < 256) (h1 : okB n P) (hS : cS I p n B P) (h : rC Q I p n B (aliS B n P)) : Wc fb (d + 4) M_X4_aliasLine [.ref 2] I J R Q := by
  refine ⟨Nat.le_of_ble_eq_true rfl, fun K hK => ?_⟩
  refine g_X4_aliasLine_0 hK hs ?_
  have hc := h1.2.2.1
  refine t_crn (r := fun P1 => if isNm (adv B n P1) = true then (match rwO (adv B n P1) with | some r => numS 0 (P1 7 r - 1) (adv B n (adv B n P1)) (fun P3 => .ok (adv B n (arw (P1 0 1) (P3 6 r + P3 0 1) (P3 7 r - P3 0 1) P3))) | none => flt 1 (adv B n P1)) else flt 1 (adv B n P1)) hs hp hR hn hB h1 hS (fun z q1 q2 q3 I1 hS1 f1 => ⟨fun _ => ?_, fun w => absurd w (by decide)⟩) (fun e he => ?_)
  · simp only [aliS] at h
    rw [if_neg (by omega)] at h
    simp only [nnS] at h
    rw [q1, if_pos rfl, q2, if_pos rfl, q3, if_pos rfl] at h
    have a1 := adv_okB (B := B) h1
    have a2 := adv_okB (B := B) a1
    have a3 := adv_okB (B := B) a2
    refine t_adv hs hp hn hB a1 hS1 (fun I2 hS2 f2 => ?_)
    have f12 := frP_tr f1 (frP_7 f2)
    have none1 : rC Q I p n B (flt 1 (adv B n (adv B n P))) → ∀ u0 : Int32, u0 < 0 → K 49 [(0, .ref 2), (1, .int (I1 7 4))] [.int u0] I2 J R := by
      intro h u0 hu
      exact g_X4_aliasLine_49 hK hs ⟨fun _ => t_fl (k := 1) hs hS2 (rC_mono f12 h), fun w => absurd hu w⟩
    refine t_isName hs a2 hS2 ⟨fun y => ?_, fun y => ?_⟩
    · rw [y, if_neg (by decide)] at h
      exact none1 h (-1) (by decide)
    · rw [y, if_pos rfl] at h
      refine t_rowOf hs hp hR a2 hS2 (isNm_t y) ?_
      cases hr : rwO (adv B n (adv B n P)) with
      | none =>
        rw [hr] at h
        exact none1 h (-1) (by decide)
      | some r =>
        rw [hr] at h
        simp only at h
        have hr8 := (rwO_s hr).1
        rw [adv_f (by decide), adv_f (by decide)] at hr8
        have hro := h1.2.2.2.2 r hr8
        refine g_X4_aliasLine_49 hK hs ⟨fun w => absurd w (nI_pos (n := r) (by omega)), fun _ => ⟨fun _ => ?_, fun w => absurd (nI_lt (b := 6) (by omega) (by decide)) w⟩⟩
        refine t_adv hs hp hn hB a2 hS2 (fun I3 hS3 f3 => ⟨p, hR, hp, r, rfl, by omega, ?_⟩)
        have f13 := frP_tr f12 (frP_7 f3)
        have s6 := hS3.2.2.2.2.2.1 r (by rw [adv_f (by decide), adv_f (by decide), adv_f (by decide)]; exact hr8)
        have c6 : adv B n (adv B n (adv B n P)) 6 = P 6 := by rw [adv_c (by decide), adv_c (by decide), adv_c (by decide)]
        have c7 : adv B n (adv B n (adv B n P)) 7 = P 7 := by rw [adv_c (by decide), adv_c (by decide), adv_c (by decide)]
        rw [s6.2.1, c7, sub1 hro.2.1]
        rw [show adv B n P 7 = P 7 from adv_c (by decide)] at h
        refine t_cnum (a := 0) (b := P 7 r - 1) hs (by decide) (by omega) a3 hS3 (fun k1 k2 k3 => ⟨fun _ => ?_, fun w => absurd w (by decide)⟩) (fun k hk => ?_)
        · have e : numS 0 (P 7 r - 1) (adv B n (adv B n (adv B n P))) (fun P3 => .ok (adv B n (arw (adv B n P 0 1) (P3 6 r + P3 0 1) (P3 7 r - P3 0 1) P3))) = .ok (adv B n (arw (adv B n P 0 1) (P 6 r + adv B n (adv B n (adv B n P)) 0 1) (P 7 r - adv B n (adv B n (adv B n P)) 0 1) (adv B n (adv B n (adv B n P))))) := by
            simp only [numS]
            rw [if_pos k1, if_neg (by omega), if_pos k3, c6, c7]
          rw [e] at h
          rw [cS_w hS1 (isNm_t q1), s6.1, s6.2.1, c6, c7, (cS_2 hS3).2 k1, nI_add, pk_sub (by omega)]
          refine t_carw hs hp hR (by rw [adv_f (by decide), adv_f (by decide), adv_f (by decide)]; exact z) hS3 (fun I4 hS4 f4 _ _ => ?_)
          refine t_adv' hs hp hn hB ?_ hS4 (fun I5 hS5 f5 => h I5 hS5 (frP_tr f13 (frP_tr f4 (frP_7 f5))))
          rw [arw_0 (by decide)]
          exact a3.1.2.1
        · rw [hk] at h
          exact fun I4 e1 e2 e3 => ⟨fun w => absurd w (by decide), fun _ => h I4 e1 e2 (frP_tr f13 e3)⟩
  · have : aliS B n P = .error e := he
    rw [this] at h
    exact fun I3 e1 e2 e3 => ⟨fun w => absurd w (by decide), fun _ => h I3 e1 e2 e3⟩
end CF
