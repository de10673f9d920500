/-! the reference's parser: LINES -/
theorem rM_bd {Q Q' : Unit → HI → Prop} {I : HI} {n : Nat} {B : Nat → Nat} {r : RS} {f : SP → RS} (h : rM Q I n B (bd r f)) (h1 : ∀ P1 I1, r = .ok P1 → bS I1 n B P1 → frN I I1 → rM Q I1 n B (f P1) → Q' () I1) (h2 : ∀ e I1, fE I1 e → frN I I1 → (∀ I2, fE I2 e → frN I I2 → Q () I2) → Q' () I1) : rM Q' I n B r := by
  cases r with
  | ok P => exact fun I' a b => h1 P I' rfl a b (rM_mono b h)
  | error e => exact fun I' a b => h2 e I' a b h
section AC
variable {B : Nat → Nat} {n : Nat} {P : SP}
theorem adv_opn {k : Nat} : adv B n (opn k P) = opn k (adv B n P) := by
  simp only [opn]
  rw [adv_up (Or.inr (by decide)), adv_up (Or.inl (by decide)), adv_up (Or.inl (by decide)), adv_f (by decide), adv_f (by decide)]
theorem adv_pat {i : Nat} : adv B n (pat i P) = pat i (adv B n P) := by
  simp only [pat]
  rw [adv_up (Or.inl (by decide)), adv_f (by decide)]
theorem adv_arw {w f z : Nat} : adv B n (arw w f z P) = arw w f z (adv B n P) := by
  simp only [arw]
  rw [adv_up (Or.inr (by decide)), adv_up (Or.inl (by decide)), adv_up (Or.inl (by decide)), adv_up (Or.inl (by decide)), adv_f (by decide)]
def nvw (w : Nat) (P : SP) : SP := up (up P 4 (P 0 7) w) 0 7 (P 0 7 + 1)
theorem adv_nvr : adv B n (nvr P) = nvw (P 0 1) (adv B n P) := by
  simp only [nvr, nvw]
  rw [adv_up (Or.inr (by decide)), adv_up (Or.inl (by decide)), adv_f (by decide)]
end AC
section MC
variable {d : Nat} {I : HI} {J : HJ} {R : HR} {B : Nat → Nat} {n : Nat} {P : SP}
theorem bS_f {j k v : Nat} (hjk : (k = 3 ∧ j = 5) ∨ (k = 15 ∧ j = 6) ∨ (k = 20 ∧ j = 9) ∨ (k = 28 ∧ j = 11) ∨ (k = 27 ∧ j = 10 ∧ v ≤ P 0 10)) (hS : bS I n B P) : bS (up I 80 k (nI v)) n B (up P 0 j v) := by
  obtain ⟨s1, s2, s3, s4, s5, s6, s7⟩ := hS
  have e : ∀ c, ¬ c = 80 → up I 80 k (nI v) c = I c := fun c hc => up_ne _ _ _ _ hc
  have ef : ∀ i, ¬ i = k → up I 80 k (nI v) 80 i = I 80 i := fun i hi => up_nk hi
  have f : ∀ i, ¬ i = j → up P 0 j v 0 i = P 0 i := fun i hi => up_nk hi
  have c : ∀ c, ¬ c = 0 → up P 0 j v c = P c := fun c hc => upc_ne hc
  refine ⟨mtR_I (fun i h1 h2 => ef i (by omega)) (mtR_cg (fun i hi => f i (by omega)) s1), ?_, ?_, ?_, ?_, ?_, ?_⟩
  · rw [ef 4 (by omega), ef 9 (by omega), e 81 (by decide)]; exact s2
  · rcases hjk with ⟨rfl, rfl⟩ | ⟨rfl, rfl⟩ | ⟨rfl, rfl⟩ | ⟨rfl, rfl⟩ | ⟨rfl, rfl, _⟩
    · rw [up_s, up_s, ef 24 (by decide), ef 15 (by decide), ef 14 (by decide), ef 19 (by decide), ef 20 (by decide), ef 27 (by decide), ef 28 (by decide), f 4 (by decide), f 6 (by decide), f 7 (by decide), f 8 (by decide), f 9 (by decide), f 10 (by decide), f 11 (by decide)]
      exact ⟨s3.1, rfl, s3.2.2⟩
    · rw [up_s, up_s, ef 24 (by decide), ef 3 (by decide), ef 14 (by decide), ef 19 (by decide), ef 20 (by decide), ef 27 (by decide), ef 28 (by decide), f 4 (by decide), f 5 (by decide), f 7 (by decide), f 8 (by decide), f 9 (by decide), f 10 (by decide), f 11 (by decide)]
      exact ⟨s3.1, s3.2.1, rfl, s3.2.2.2⟩
    · rw [up_s, up_s, ef 24 (by decide), ef 3 (by decide), ef 15 (by decide), ef 14 (by decide), ef 19 (by decide), ef 27 (by decide), ef 28 (by decide), f 4 (by decide), f 5 (by decide), f 6 (by decide), f 7 (by decide), f 8 (by decide), f 10 (by decide), f 11 (by decide)]
      exact ⟨s3.1, s3.2.1, s3.2.2.1, s3.2.2.2.1, s3.2.2.2.2.1, rfl, s3.2.2.2.2.2.2⟩
    · rw [up_s, up_s, ef 24 (by decide), ef 3 (by decide), ef 15 (by decide), ef 14 (by decide), ef 19 (by decide), ef 20 (by decide), ef 27 (by decide), f 4 (by decide), f 5 (by decide), f 6 (by decide), f 7 (by decide), f 8 (by decide), f 9 (by decide), f 10 (by decide)]
      exact ⟨s3.1, s3.2.1, s3.2.2.1, s3.2.2.2.1, s3.2.2.2.2.1, s3.2.2.2.2.2.1, s3.2.2.2.2.2.2.1, rfl⟩
    · rw [up_s, up_s, ef 24 (by decide), ef 3 (by decide), ef 15 (by decide), ef 14 (by decide), ef 19 (by decide), ef 20 (by decide), ef 28 (by decide), f 4 (by decide), f 5 (by decide), f 6 (by decide), f 7 (by decide), f 8 (by decide), f 9 (by decide), f 11 (by decide)]
      exact ⟨s3.1, s3.2.1, s3.2.2.1, s3.2.2.2.1, s3.2.2.2.2.1, s3.2.2.2.2.2.1, rfl, s3.2.2.2.2.2.2.2⟩
  · rw [e 86 (by decide), e 87 (by decide), e 88 (by decide), f 4 (by omega), c 1 (by decide), c 2 (by decide), c 3 (by decide)]; exact s4
  · rw [e 84 (by decide), e 85 (by decide), e 83 (by decide), f 8 (by omega), c 5 (by decide), c 6 (by decide), c 7 (by decide)]; exact s5
  · rw [e 82 (by decide), f 7 (by omega), c 4 (by decide)]; exact s6
  · rw [e 89 (by decide), e 90 (by decide), c 8 (by decide), c 9 (by decide)]
    intro b hb
    rcases hjk with ⟨rfl, rfl⟩ | ⟨rfl, rfl⟩ | ⟨rfl, rfl⟩ | ⟨rfl, rfl⟩ | ⟨rfl, rfl, hv⟩
    · rw [f 10 (by decide)] at hb; exact s7 b hb
    · rw [f 10 (by decide)] at hb; exact s7 b hb
    · rw [f 10 (by decide)] at hb; exact s7 b hb
    · rw [f 10 (by decide)] at hb; exact s7 b hb
    · rw [up_s] at hb; exact s7 b (by omega)
theorem bS_nv {w : Nat} (hS : bS I n B P) : bS (up (up I 82 (P 0 7) (nI w)) 80 14 (nI (P 0 7 + 1))) n B (nvw w P) := by
  obtain ⟨s1, s2, s3, s4, s5, s6, s7⟩ := hS
  have e : ∀ c, ¬ c = 80 → ¬ c = 82 → up (up I 82 (P 0 7) (nI w)) 80 14 (nI (P 0 7 + 1)) c = I c := fun c h1 h2 => by rw [up_ne _ _ _ _ h1, up_ne _ _ _ _ h2]
  have ef : ∀ i, ¬ i = 14 → up (up I 82 (P 0 7) (nI w)) 80 14 (nI (P 0 7 + 1)) 80 i = I 80 i := fun i hi => by rw [up_nk hi, up_na (by decide)]
  have f : ∀ i, ¬ i = 7 → nvw w P 0 i = P 0 i := fun i hi => by rw [nvw, up_nk hi, up_na (by decide)]
  have f7 : nvw w P 0 7 = P 0 7 + 1 := by rw [nvw, up_s]
  have c : ∀ c, ¬ c = 0 → ¬ c = 4 → nvw w P c = P c := fun c h0 h4 => by rw [nvw, upc_ne h0, upc_ne h4]
  refine ⟨mtR_I (fun i h1 h2 => ef i (by omega)) (mtR_cg (fun i hi => f i (by omega)) s1), ?_, ?_, ?_, ?_, fun v hv => ?_, ?_⟩
  · rw [ef 4 (by omega), ef 9 (by omega), e 81 (by decide) (by decide)]; exact s2
  · rw [up_s, f7, ef 24 (by decide), ef 3 (by decide), ef 15 (by decide), ef 19 (by decide), ef 20 (by decide), ef 27 (by decide), ef 28 (by decide), f 4 (by decide), f 5 (by decide), f 6 (by decide), f 8 (by decide), f 9 (by decide), f 10 (by decide), f 11 (by decide)]
    exact ⟨s3.1, s3.2.1, s3.2.2.1, rfl, s3.2.2.2.2⟩
  · rw [e 86 (by decide) (by decide), e 87 (by decide) (by decide), e 88 (by decide) (by decide), f 4 (by omega), c 1 (by decide) (by decide), c 2 (by decide) (by decide), c 3 (by decide) (by decide)]; exact s4
  · rw [e 84 (by decide) (by decide), e 85 (by decide) (by decide), e 83 (by decide) (by decide), f 8 (by omega), c 5 (by decide) (by decide), c 6 (by decide) (by decide), c 7 (by decide) (by decide)]; exact s5
  · rw [f7] at hv
    simp only [nvw, up_ap]
    by_cases hvv : v = P 0 7
    · rw [if_neg (by omega), if_pos ⟨trivial, hvv⟩, if_neg (by omega), if_pos ⟨trivial, hvv⟩]
    · rw [if_neg (by omega), if_neg (by omega), if_neg (by omega), if_neg (by omega)]
      exact s6 v (by omega)
  · rw [e 89 (by decide) (by decide), e 90 (by decide) (by decide), f 10 (by decide), c 8 (by decide) (by decide), c 9 (by decide) (by decide)]; exact s7
theorem t_mrowA {w f z : Nat} {Q : Unit → HI → Prop} (hs : Stat R) (h8 : P 0 8 < 6) (hS : bS I n B P) (h : ∀ I', bS I' n B (arw w f z P) → frN I I' → I' 80 20 = I 80 20 → Q () I') : Wc fv (d + 1) M_X12_addsRow [.ref 80, .int (nI w), .int (nI f), .int (nI z)] I J R Q := by
  obtain ⟨s1, s2, s3, s4, s5, s6, s7⟩ := hS
  refine e_X12_addsRow hs ⟨fun _ => ?_, fun q => absurd s2.2.1 q⟩
  rw [s3.2.2.2.2.1, show (6 : Int32) + nI (P 0 8) = nI (6 + P 0 8) from nI_add 6 _, nI_1]
  refine ⟨P 0 8, rfl, h8, 6 + P 0 8, rfl, by omega, ?_⟩
  have e : ∀ c, ¬ c = 80 → ¬ c = 83 → ¬ c = 84 → ¬ c = 85 → up (up (up (up I 83 (P 0 8) (nI w)) 84 (6 + P 0 8) (nI f)) 85 (6 + P 0 8) (nI z)) 80 19 (nI (P 0 8 + 1)) c = I c := fun c a1 a2 a3 a4 => by rw [up_ne _ _ _ _ a1, up_ne _ _ _ _ a4, up_ne _ _ _ _ a3, up_ne _ _ _ _ a2]
  have ef : ∀ k, ¬ k = 19 → up (up (up (up I 83 (P 0 8) (nI w)) 84 (6 + P 0 8) (nI f)) 85 (6 + P 0 8) (nI z)) 80 19 (nI (P 0 8 + 1)) 80 k = I 80 k := fun k hk => by rw [up_nk hk, up_na (by decide), up_na (by decide), up_na (by decide)]
  refine h _ ⟨mtR_I (fun k h1 h2 => ef k (by omega)) (mtR_cg (fun j hj => arw_0 (by omega)) s1), ?_, ?_, ?_, fun r hr => ?_, ?_, ?_⟩ (frN_f (by omega) (frN_c (by omega) (by omega) (by omega) (frN_c (by omega) (by omega) (by omega) (frN_c (by omega) (by omega) (by omega) frN_rf)))) (ef 20 (by decide))
  · rw [ef 4 (by decide), ef 9 (by decide), e 81 (by decide) (by decide) (by decide) (by decide)]; exact s2
  · rw [up_s, arw_8, ef 24 (by decide), ef 3 (by decide), ef 15 (by decide), ef 14 (by decide), ef 20 (by decide), ef 27 (by decide), ef 28 (by decide), arw_0 (j := 4) (by decide), arw_0 (j := 5) (by decide), arw_0 (j := 6) (by decide), arw_0 (j := 7) (by decide), arw_0 (j := 9) (by decide), arw_0 (j := 10) (by decide), arw_0 (j := 11) (by decide)]
    exact ⟨s3.1, s3.2.1, s3.2.2.1, s3.2.2.2.1, rfl, s3.2.2.2.2.2⟩
  · rw [e 86 (by decide) (by decide) (by decide) (by decide), e 87 (by decide) (by decide) (by decide) (by decide), e 88 (by decide) (by decide) (by decide) (by decide), arw_0 (by decide), arw_c (c := 1) (by decide) (by decide) (by decide) (by decide), arw_c (c := 2) (by decide) (by decide) (by decide) (by decide), arw_c (c := 3) (by decide) (by decide) (by decide) (by decide)]; exact s4
  · rw [arw_8] at hr
    rw [arw_5, arw_6, arw_7]
    simp only [up_ap]
    by_cases hrr : r = P 0 8
    · rw [if_pos hrr, if_pos hrr, if_pos hrr]
      refine ⟨?_, ?_, ?_⟩
      · rw [if_neg (by omega), if_neg (by omega), if_pos ⟨trivial, by omega⟩]
      · rw [if_neg (by omega), if_pos ⟨trivial, by omega⟩]
      · rw [if_neg (by omega), if_neg (by omega), if_neg (by omega), if_pos ⟨trivial, by omega⟩]
    · have := s5 r (by omega)
      rw [if_neg hrr, if_neg hrr, if_neg hrr]
      refine ⟨?_, ?_, ?_⟩
      · rw [if_neg (by omega), if_neg (by omega), if_neg (by omega), if_neg (by omega)]; exact this.1
      · rw [if_neg (by omega), if_neg (by omega), if_neg (by omega), if_neg (by omega)]; exact this.2.1
      · rw [if_neg (by omega), if_neg (by omega), if_neg (by omega), if_neg (by omega)]; exact this.2.2
  · rw [e 82 (by decide) (by decide) (by decide) (by decide), arw_0 (by decide), arw_c (c := 4) (by decide) (by decide) (by decide) (by decide)]; exact s6
  · rw [e 89 (by decide) (by decide) (by decide) (by decide), e 90 (by decide) (by decide) (by decide) (by decide), arw_0 (by decide), arw_c (c := 8) (by decide) (by decide) (by decide) (by decide), arw_c (c := 9) (by decide) (by decide) (by decide) (by decide)]; exact s7
theorem t_mopn {k : Nat} {Q : Unit → HI → Prop} (hs : Stat R) (h4 : P 0 10 < 4) (hS : bS I n B P) (h : ∀ I', bS I' n B (opn k P) → frN I I' → Q () I') : Wc fv (d + 1) M_X12_opens [.ref 80, .int (nI k), .int (I 80 24)] I J R Q := by
  obtain ⟨s1, s2, s3, s4, s5, s6, s7⟩ := hS
  refine e_X12_opens hs ⟨fun _ => ?_, fun q => absurd s2.2.1 q⟩
  rw [s3.2.2.2.2.2.2.1, s3.1, nI_1]
  refine ⟨P 0 10, rfl, h4, ?_⟩
  have e : ∀ c, ¬ c = 80 → ¬ c = 89 → ¬ c = 90 → up (up (up I 89 (P 0 10) (nI k)) 90 (P 0 10) (nI (P 0 4))) 80 27 (nI (P 0 10 + 1)) c = I c := fun c a1 a2 a3 => by rw [up_ne _ _ _ _ a1, up_ne _ _ _ _ a3, up_ne _ _ _ _ a2]
  have ef : ∀ j, ¬ j = 27 → up (up (up I 89 (P 0 10) (nI k)) 90 (P 0 10) (nI (P 0 4))) 80 27 (nI (P 0 10 + 1)) 80 j = I 80 j := fun j hj => by rw [up_nk hj, up_na (by decide), up_na (by decide)]
  refine h _ ⟨mtR_I (fun k h1 h2 => ef k (by omega)) (mtR_cg (fun j hj => opn_0 (by omega)) s1), ?_, ?_, ?_, ?_, ?_, fun b hb => ?_⟩ (frN_f (by omega) (frN_c (by omega) (by omega) (by omega) (frN_c (by omega) (by omega) (by omega) frN_rf)))
  · rw [ef 4 (by decide), ef 9 (by decide), e 81 (by decide) (by decide) (by decide)]; exact s2
  · rw [up_s, opn_10, ef 24 (by decide), ef 3 (by decide), ef 15 (by decide), ef 14 (by decide), ef 19 (by decide), ef 20 (by decide), ef 28 (by decide), opn_0 (j := 4) (by decide), opn_0 (j := 5) (by decide), opn_0 (j := 6) (by decide), opn_0 (j := 7) (by decide), opn_0 (j := 8) (by decide), opn_0 (j := 9) (by decide), opn_0 (j := 11) (by decide)]
    exact ⟨s3.1, s3.2.1, s3.2.2.1, s3.2.2.2.1, s3.2.2.2.2.1, s3.2.2.2.2.2.1, rfl, s3.2.2.2.2.2.2.2⟩
  · rw [e 86 (by decide) (by decide) (by decide), e 87 (by decide) (by decide) (by decide), e 88 (by decide) (by decide) (by decide), opn_0 (by decide), opn_c (c := 1) (by decide) (by decide) (by decide), opn_c (c := 2) (by decide) (by decide) (by decide), opn_c (c := 3) (by decide) (by decide) (by decide)]; exact s4
  · rw [e 84 (by decide) (by decide) (by decide), e 85 (by decide) (by decide) (by decide), e 83 (by decide) (by decide) (by decide), opn_0 (by decide), opn_c (c := 5) (by decide) (by decide) (by decide), opn_c (c := 6) (by decide) (by decide) (by decide), opn_c (c := 7) (by decide) (by decide) (by decide)]; exact s5
  · rw [e 82 (by decide) (by decide) (by decide), opn_0 (by decide), opn_c (c := 4) (by decide) (by decide) (by decide)]; exact s6
  · rw [opn_10] at hb
    rw [opn_8, opn_9]
    simp only [up_ap]
    by_cases hbb : b = P 0 10
    · rw [if_pos hbb, if_pos hbb, if_neg (by omega), if_neg (by omega), if_pos ⟨trivial, hbb⟩, if_neg (by omega), if_pos ⟨trivial, hbb⟩]
      exact ⟨rfl, rfl⟩
    · rw [if_neg hbb, if_neg hbb, if_neg (by omega), if_neg (by omega), if_neg (by omega), if_neg (by omega), if_neg (by omega), if_neg (by omega)]
      exact s7 b (by omega)
theorem bS_pat {i : Nat} (hS : bS I n B P) : bS (up I 87 (1000 + i) (nI (P 0 4))) n B (pat i P) := by
  obtain ⟨s1, s2, s3, s4, s5, s6, s7⟩ := hS
  have e : ∀ c, ¬ c = 87 → up I 87 (1000 + i) (nI (P 0 4)) c = I c := fun c hc => up_ne _ _ _ _ hc
  have f : pat i P 0 = P 0 := upc_ne (by decide)
  have c : ∀ c, ¬ c = 2 → pat i P c = P c := fun c hc => upc_ne hc
  refine ⟨?_, ?_, ?_, fun j hj => ?_, ?_, ?_, ?_⟩
  · rw [f]; exact mtR_I (fun k _ _ => by rw [e 80 (by decide)]) s1
  · rw [e 80 (by decide), e 81 (by decide)]; exact s2
  · rw [e 80 (by decide), f]; exact s3
  · rw [f] at hj
    have := s4 j hj
    rw [e 86 (by decide), e 88 (by decide), c 1 (by decide), c 3 (by decide)]
    by_cases hji : j = i
    · rw [hji, up_s, pat, up_s]
      rw [hji] at this
      exact ⟨this.1, rfl, this.2.2⟩
    · rw [up_nk (by omega), pat, up_nk hji]
      exact this
  · rw [e 84 (by decide), e 85 (by decide), e 83 (by decide), f, c 5 (by decide), c 6 (by decide), c 7 (by decide)]; exact s5
  · rw [e 82 (by decide), f, c 4 (by decide)]; exact s6
  · rw [e 89 (by decide), e 90 (by decide), f, c 8 (by decide), c 9 (by decide)]; exact s7
theorem t_mnn {Q : Int32 → HI → Prop} (hs : Stat R) (hn : n ≤ 900) (hB : ∀ j, B j < 256) (h1 : okB n P) (hS : bS I n B P) (hq : isNm P = true → vrO P = none → rwO P = none → ∀ I', bS I' n B (adv B n P) → frT I I' → Q (nI (P 0 1)) I') (he : ∀ k, (∀ r, nnS P r = flt k P) → ∀ I' x, fE I' (k, P 0 2) → frN I I' → Q x I') : Wc fi (d + 5) M_X12_newName [.ref 80] I J R Q := by
  refine e_X12_newName hs ?_
  have hc := h1.2.2.1
  refine t_misN hs h1 hS ⟨fun z => ?_, fun z => ?_⟩
  · have k1 := isNm_t z
    refine t_mvar hs h1 hS k1 ?_
    cases hv : vrO P with
    | some v =>
      have := (vrO_s hv).1
      refine ⟨fun _ => t_mwrong (k := 3) hs (by omega) hS (fun I1 hf f1 => f_goOn hs hf.2.1 (he 3 (fun r => by simp only [nnS]; rw [z, if_pos rfl, hv, if_neg (by simp)]) I1 _ hf f1)), fun w => absurd w (nI_m1 (by omega))⟩
    | none =>
      refine ⟨fun w => absurd rfl w, fun _ => t_mrow hs h1 hS k1 ?_⟩
      cases hr : rwO P with
      | none =>
        refine ⟨fun _ => t_goOn hs hn hB h1.1.2.1 hS (fun I1 hS1 f1 => ?_), fun w => absurd rfl w⟩
        rw [bS_w hS (Or.inl k1)]
        exact hq z hv hr I1 hS1 f1
      | some r =>
        have := (rwO_s hr).1
        exact ⟨fun w => absurd w (nI_m1 (k := r) (by omega)), fun _ => t_mwrong (k := 3) hs (by omega) hS (fun I1 hf f1 => f_goOn hs hf.2.1 (he 3 (fun r => by simp only [nnS]; rw [z, if_pos rfl, hv, if_pos rfl, hr, if_neg (by simp)]) I1 _ hf f1))⟩
  · exact t_mwrong (k := 1) hs (by omega) hS (fun I1 hf f1 => f_goOn hs hf.2.1 (he 1 (fun r => by simp only [nnS]; rw [z, if_neg (by decide)]) I1 _ hf f1))
theorem t_min {Q : Unit → HI → Prop} (hs : Stat R) (hn : n ≤ 900) (hB : ∀ j, B j < 256) (h1 : okL n P) (hS : bS I n B P) (h : rM Q I n B (ltS P (inS B n P))) : Wc fv (d + 6) M_X12_readIn [.ref 80] I J R Q := by
  refine ⟨Nat.le_of_ble_eq_true rfl, fun K hK => ?_⟩
  have hc := h1.1.2.2.1
  have dead : ∀ e I1, fE I1 e → Q () I1 → K 28 [(0, .ref 80)] [] I1 J R := fun e I1 hf hq => g_X12_readIn_28 hK hs (f_goOn hs hf.2.1 (f_newName hs hf.2.1 (fun x => ⟨fun z => absurd z hf.2.1, fun _ => hq⟩)))
  refine g_X12_readIn_0 hK hs ?_
  have c28 : (I 80 28 = (0 : Int32)) ↔ P 0 11 = 0 := by rw [hS.2.2.1.2.2.2.2.2.2.2]; exact nI_eq (b := 0) (by omega) (by decide)
  have c15 : (I 80 15 = (4 : Int32)) ↔ P 0 6 = 4 := by rw [hS.2.2.1.2.2.1]; exact nI_eq (b := 4) (by omega) (by decide)
  rw [c28, c15]
  simp only [ltS] at h
  refine ⟨fun z => ?_, fun z => ?_⟩
  · rw [if_pos z] at h
    simp only [inS] at h
    refine ⟨fun y => ?_, fun y => ?_⟩
    · rw [if_neg y] at h
      refine g_X12_readIn_28 hK hs ?_
      refine t_goOn hs hn hB h1.1.1.2.1 hS (fun I1 hS1 f1 => ?_)
      have a1 := adv_okB (B := B) h1.1
      have h := rM_mono (frN_T f1) h
      refine t_mnn hs hn hB a1 hS1 (fun q1 q2 q3 I2 hS2 f2 => ?_) (fun k hk I2 x hf f2 => ?_)
      · simp only [nnS] at h
        rw [q1, if_pos rfl, q2, if_pos rfl, q3, if_pos rfl, adv_up (Or.inr (by decide)), adv_nvr] at h
        refine ⟨fun _ => ?_, fun w => absurd hS2.2.1.2.1 w⟩
        have c7 := hc.2.2.2.2.2.2.2 z
        have e7 : adv B n (adv B n P) 0 7 = P 0 7 := by rw [adv_f (by decide), adv_f (by decide)]
        have e6 : adv B n (adv B n P) 0 6 = P 0 6 := by rw [adv_f (by decide), adv_f (by decide)]
        have i14 : I2 80 14 = nI (adv B n (adv B n P) 0 7) := hS2.2.2.1.2.2.2.1
        have i15 : I2 80 15 = nI (adv B n (adv B n P) 0 6) := hS2.2.2.1.2.2.1
        rw [i14, i15, nI_1, nI_1]
        refine ⟨_, rfl, by rw [e7]; omega, ?_⟩
        have hS3 := bS_f (k := 15) (j := 6) (v := adv B n (adv B n P) 0 6 + 1) (Or.inr (Or.inl ⟨rfl, rfl⟩)) (bS_nv (w := adv B n P 0 1) hS2)
        refine h _ ?_ (frN_tr (frN_T f2) (frN_f (by omega) (frN_f (by omega) (frN_c (by omega) (by omega) (by omega) frN_rf))))
        have ee : adv B n P 0 6 + 1 = adv B n (adv B n P) 0 6 + 1 := by rw [adv_f (P := adv B n P) (by decide)]
        rw [ee]
        exact hS3
      · rw [hk] at h
        exact ⟨fun w => absurd w hf.2.1, fun _ => h I2 hf f2⟩
    · rw [if_pos y] at h
      exact t_mwrong (k := 2) hs (by omega) hS (fun I1 hf f1 => dead _ I1 hf (h I1 hf f1))
  · rw [if_neg z] at h
    exact t_mwrong (k := 1) hs (by omega) hS (fun I1 hf f1 => dead _ I1 hf (h I1 hf f1))
theorem t_mrowL {y : Bool} {Q : Unit → HI → Prop} (hs : Stat R) (hn : n ≤ 900) (hB : ∀ j, B j < 256) (h1 : okL n P) (hS : bS I n B P) (h : rM Q I n B (ltS P (if y = true then aliS B n P else rowS B n P))) : Wc fv (d + 6) M_X12_readRow [.ref 80, .int (b2i y)] I J R Q := by
  refine ⟨Nat.le_of_ble_eq_true rfl, fun K hK => ?_⟩
  have hc := h1.1.2.2.1
  have dead101 : ∀ e I1 x2 x3, fE I1 e → Q () I1 → K 101 [(0, .ref 80), (2, .int x2), (3, .int x3)] [] I1 J R := fun e I1 x2 x3 hf hq => g_X12_readRow_101 hK hs (f_goOn hs hf.2.1 ⟨fun z => absurd z hf.2.1, fun _ => hq⟩)
  have deadN : ∀ e I1 x, fE I1 e → (∀ I2, fE I2 e → frN I1 I2 → Q () I2) → (y = true → Wp fb (d + 5) M_X12_isName [.ref 80] I1 J R (fun b6 => ((b6 = false → Wc fv (d + 5) M_X12_wrong [.ref 80, .int 1] I1 J R (fun _ I9 => K 101 [(0, .ref 80), (2, .int x), (3, .int (-1))] [] I9 J R)) ∧ (b6 = true → Wp fi (d + 5) M_X12_rowOf [.ref 80, .int (I1 80 8)] I1 J R (fun r10 => ((¬ r10 = (-1) → K 101 [(0, .ref 80), (2, .int x), (3, .int r10)] [] I1 J R) ∧ (r10 = (-1) → Wc fv (d + 5) M_X12_wrong [.ref 80, .int 1] I1 J R (fun _ I13 => K 101 [(0, .ref 80), (2, .int x), (3, .int r10)] [] I13 J R)))))))) ∧ (y = false → Wc fi (d + 5) M_X12_numeral [.ref 80, .int 1, .int 8] I1 J R (fun r14 I15 => Wc fv (d + 5) M_X12_addsRow [.ref 80, .int x, .int (I15 80 20), .int r14] I15 J R (fun _ I17 => Q () (up I17 80 20 (I17 80 20 + r14))))) := by
    intro e I1 x hf hq
    refine ⟨fun _ => f_isName hs hf.2.1 ⟨fun _ => f_wrong hs hf.2.1 (dead101 e I1 _ _ hf (hq I1 hf frN_rf)), fun z => absurd z (by decide)⟩, fun _ => f_numeral hs hf.2.1 (f_addsRow hs hf.2.1 (hq _ (fE_f (by decide) (by decide) hf) (frN_f (by omega) frN_rf)))⟩
  have dead : ∀ e I1, fE I1 e → (∀ I2, fE I2 e → frN I1 I2 → Q () I2) → K 29 [(0, .ref 80), (1, .int (b2i y))] [] I1 J R := fun e I1 hf hq => g_X12_readRow_29 hK hs (f_goOn hs hf.2.1 (f_newName hs hf.2.1 (fun x => deadN e I1 x hf hq)))
  refine g_X12_readRow_0 hK hs ?_
  have c28 : (I 80 28 = (0 : Int32)) ↔ P 0 11 = 0 := by rw [hS.2.2.1.2.2.2.2.2.2.2]; exact nI_eq (b := 0) (by omega) (by decide)
  have c19 : (I 80 19 = (6 : Int32)) ↔ P 0 8 = 6 := by rw [hS.2.2.1.2.2.2.2.1]; exact nI_eq (b := 6) (by omega) (by decide)
  rw [c28, c19]
  simp only [ltS] at h
  refine ⟨fun z => ?_, fun z => ?_⟩
  · rw [if_pos z] at h
    refine ⟨fun q => ?_, fun q => ?_⟩
    · refine g_X12_readRow_29 hK hs ?_
      refine t_goOn hs hn hB h1.1.1.2.1 hS (fun I1 hS1 f1 => ?_)
      have a1 := adv_okB (B := B) h1.1
      have a2 := adv_okB (B := B) a1
      have a3 := adv_okB (B := B) a2
      have h := rM_mono (frN_T f1) h
      refine t_mnn hs hn hB a1 hS1 (fun q1 q2 q3 I2 hS2 f2 => ?_) (fun k hk I2 x hf f2 => ?_)
      · have h := rM_mono (frN_T f2) h
        refine ⟨fun yt => ?_, fun yf => ?_⟩
        · rw [yt, if_pos rfl] at h
          simp only [aliS] at h
          rw [if_neg q] at h
          simp only [nnS] at h
          rw [q1, if_pos rfl, q2, if_pos rfl, q3, if_pos rfl] at h
          refine t_misN hs a2 hS2 ⟨fun w => ?_, fun w => ?_⟩
          · rw [w, if_neg (by decide)] at h
            exact t_mwrong (k := 1) hs (by omega) hS2 (fun I3 hf f3 => dead101 _ I3 _ _ hf (h I3 hf f3))
          · rw [w, if_pos rfl] at h
            refine t_mrow hs a2 hS2 (isNm_t w) ?_
            cases hr : rwO (adv B n (adv B n P)) with
            | none =>
              rw [hr] at h
              exact ⟨fun w => absurd rfl w, fun _ => t_mwrong (k := 1) hs (by omega) hS2 (fun I3 hf f3 => dead101 _ I3 _ _ hf (h I3 hf f3))⟩
            | some r =>
              rw [hr] at h
              simp only at h
              have hr8 := (rwO_s hr).1
              rw [adv_f (by decide), adv_f (by decide)] at hr8
              have hro := h1.1.2.2.2.2 r hr8
              refine ⟨fun _ => ?_, fun w => absurd w (nI_m1 (k := r) (by omega))⟩
              refine g_X12_readRow_101 hK hs ?_
              refine t_goOn hs hn hB a2.1.2.1 hS2 (fun I3 hS3 f3 => ⟨fun _ => ?_, fun w => absurd hS3.2.1.2.1 w⟩)
              have h := rM_mono (frN_T f3) h
              have s5 := hS3.2.2.2.2.1 r (by rw [adv_f (by decide), adv_f (by decide), adv_f (by decide)]; exact hr8)
              have c6 : adv B n (adv B n (adv B n P)) 6 = P 6 := by rw [adv_c (by decide), adv_c (by decide), adv_c (by decide)]
              have c7 : adv B n (adv B n (adv B n P)) 7 = P 7 := by rw [adv_c (by decide), adv_c (by decide), adv_c (by decide)]
              refine ⟨6 + r, nI_add 6 r, by omega, ?_⟩
              rw [s5.2.1, c7, sub1 hro.2.1]
              rw [show adv B n P 7 = P 7 from adv_c (by decide)] at h
              refine t_mnum (a := 0) (c := P 7 r - 1) (d := d) hs hn hB (by decide) (by omega) a3 hS3 (fun k1 k2 k3 I4 hS4 f4 => ?_) (fun k hk I4 x hf f4 => ?_)
              · simp only [numS] at h
                rw [if_pos k1, if_neg (by omega), if_pos k3, c6, c7, adv_arw] at h
                have s5' : I4 84 (6 + r) = nI (P 6 r) ∧ I4 85 (6 + r) = nI (P 7 r) := by
                  rw [f4.1 84 (by decide), f4.1 85 (by decide), s5.1, s5.2.1, c6, c7]
                  exact ⟨rfl, rfl⟩
                rw [s5'.1, s5'.2, nI_add, pk_sub (by omega)]
                exact t_mrowA hs (by rw [adv_f (by decide), adv_f (by decide), adv_f (by decide), adv_f (by decide)]; omega) hS4 (fun I5 hS5 f5 _ => h I5 hS5 (frN_tr (frN_T f4) f5))
              · rw [hk] at h
                exact f_addsRow hs hf.2.1 (h I4 hf f4)
        · rw [yf, if_neg (by decide)] at h
          simp only [rowS] at h
          rw [if_neg q] at h
          simp only [nnS] at h
          rw [q1, if_pos rfl, q2, if_pos rfl, q3, if_pos rfl] at h
          refine t_mnum (a := 1) (c := 8) (d := d) hs hn hB (by decide) (by decide) a2 hS2 (fun k1 k2 k3 I3 hS3 f3 => ?_) (fun k hk I3 x hf f3 => ?_)
          · simp only [numS] at h
            rw [if_pos k1, if_neg (by omega), if_pos k3, adv_up (Or.inr (by decide)), adv_arw] at h
            have i20 : I3 80 20 = nI (adv B n (adv B n P) 0 9) := by rw [hS3.2.2.1.2.2.2.2.2.1, adv_f (P := adv B n (adv B n P)) (by decide)]
            rw [i20]
            refine t_mrowA hs (by rw [adv_f (by decide), adv_f (by decide), adv_f (by decide)]; omega) hS3 (fun I4 hS4 f4 g4 => ?_)
            rw [g4, i20, nI_add]
            exact h _ (bS_f (k := 20) (j := 9) (Or.inr (Or.inr (Or.inl ⟨rfl, rfl⟩))) hS4) (frN_tr (frN_T f3) (frN_tr f4 (frN_f (by omega) frN_rf)))
          · rw [hk] at h
            exact f_addsRow hs hf.2.1 (h _ (fE_f (by decide) (by decide) hf) (frN_f (by omega) f3))
      · have h' : rM Q I1 n B (flt k (adv B n P)) := by
          rcases y with _ | _
          · rw [if_neg (by decide)] at h
            simp only [rowS] at h
            rw [if_neg q, hk] at h
            exact h
          · rw [if_pos rfl] at h
            simp only [aliS] at h
            rw [if_neg q, hk] at h
            exact h
        exact deadN _ I2 x hf (fun I3 hf3 f3 => h' I3 hf3 (frN_tr f2 f3))
    · have h' : rM Q I n B (flt 2 P) := by
        rcases y with _ | _
        · rw [if_neg (by decide)] at h
          simp only [rowS] at h
          rw [if_pos q] at h
          exact h
        · rw [if_pos rfl] at h
          simp only [aliS] at h
          rw [if_pos q] at h
          exact h
      exact t_mwrong (k := 2) hs (by omega) hS (fun I1 hf f1 => dead _ I1 hf (fun I2 hf2 f2 => h' I2 hf2 (frN_tr f1 f2)))
  · rw [if_neg z] at h
    exact t_mwrong (k := 1) hs (by omega) hS (fun I1 hf f1 => dead _ I1 hf (fun I2 hf2 f2 => h I2 hf2 (frN_tr f1 f2)))
end MC
