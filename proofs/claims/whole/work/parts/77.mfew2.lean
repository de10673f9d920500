/-! few, split, states, action, actions: the reference -/
def frF (I I' : HI) : Prop := (∀ a, ¬ a = 80 → (a < 118 ∨ 120 < a) → I' a = I a) ∧ (∀ k, ¬ k = 0 → k < 73 → I' 80 k = I 80 k) ∧ I' 80 0 = 0
theorem frF_0 {I : HI} : frF I (up I 80 0 0) := ⟨fun _ h _ => up_ne _ _ _ _ h, fun _ h _ => up_nk h, up_s⟩
theorem frF_L {I I1 I2 : HI} (h : frF I I1) (g : frL I1 I2) : frF I I2 := ⟨fun a a1 a2 => (g.1 a a1 (by omega) (by omega)).trans (h.1 a a1 a2), fun k k1 k2 => (g.2 k (by omega)).trans (h.2.1 k k1 k2), (g.2 0 (by omega)).trans h.2.2⟩
theorem fewI_0 {I : HI} (h : fewI I) : fewI (up I 80 0 0) := by
  simp only [fewI, tabF, up_nk (show ¬ 73 = 0 by decide), up_ne I 80 0 0 (show ¬ 118 = 80 by decide), up_ne I 80 0 0 (show ¬ 119 = 80 by decide)]
  exact h
theorem rQ_F {I I' : HI} {J : HJ} {R : HR} {G T : SP} (hf : frF I I') (h : rQ I J R G T) : rQ I' J R G T := by
  have k : ∀ c, ¬ c = 80 → c < 109 → I' c = I c := fun c h1 h2 => hf.1 c h1 (Or.inl (by omega))
  have f : ∀ c, ¬ c = 0 → c < 73 → I' 80 c = I 80 c := fun c h1 h2 => hf.2.1 c h1 h2
  refine ⟨h.1, ?_, ?_, ?_⟩
  · have := h.2.1
    simp only [pM, f 30 (by decide) (by decide), f 31 (by decide) (by decide), f 32 (by decide) (by decide), f 33 (by decide) (by decide), f 34 (by decide) (by decide), f 35 (by decide) (by decide), k 84 (by decide) (by decide), k 85 (by decide) (by decide), k 86 (by decide) (by decide), k 87 (by decide) (by decide), k 88 (by decide) (by decide)]
    exact this
  · have := h.2.2.1
    simp only [qM, rL, rS, rN, f 44 (by decide) (by decide), f 47 (by decide) (by decide), f 54 (by decide) (by decide), f 56 (by decide) (by decide), f 57 (by decide) (by decide), f 61 (by decide) (by decide), k 92 (by decide) (by decide), k 96 (by decide) (by decide), k 97 (by decide) (by decide), k 98 (by decide) (by decide), k 100 (by decide) (by decide), k 102 (by decide) (by decide), k 104 (by decide) (by decide), k 106 (by decide) (by decide), k 107 (by decide) (by decide), k 108 (by decide) (by decide)]
    simp only [qM, rL, rS, rN] at this
    exact this
  · have := h.2.2.2
    simp only [stM, f 59 (by decide) (by decide), f 60 (by decide) (by decide)]
    exact this
/-- the reference's walk -/
def mS (I : HI) (S : Nat → Int32) : Prop := I 80 75 = S 0 ∧ I 80 74 = S 1 ∧ I 80 77 = S 2 ∧ I 80 78 = S 3 ∧ I 80 79 = S 4 ∧ I 120 0 = S 5 ∧ I 120 1 = S 6 ∧ I 120 2 = S 7
def frW (I I' : HI) : Prop := (∀ a, ¬ a = 80 → ¬ a = 120 → I' a = I a) ∧ (∀ k, k < 74 → I' 80 k = I 80 k)
theorem frW_tr {I I1 I2 : HI} (h : frW I I1) (g : frW I1 I2) : frW I I2 := ⟨fun a a1 a2 => (g.1 a a1 a2).trans (h.1 a a1 a2), fun k hk => (g.2 k hk).trans (h.2 k hk)⟩
theorem frW_f {I I1 : HI} {k : Nat} {x : Int32} (hk : 74 ≤ k) (h : frW I I1) : frW I (up I1 80 k x) := ⟨fun a a1 a2 => (up_ne _ _ _ _ a1).trans (h.1 a a1 a2), fun j hj => (up_nk (by omega)).trans (h.2 j hj)⟩
theorem frW_u {I I1 : HI} {k : Nat} {x : Int32} (h : frW I I1) : frW I (up I1 120 k x) := ⟨fun a a1 a2 => (up_ne _ _ _ _ a2).trans (h.1 a a1 a2), fun j hj => (up_na (by omega)).trans (h.2 j hj)⟩
theorem frW_rf {I : HI} : frW I I := ⟨fun _ _ _ => rfl, fun _ _ => rfl⟩
theorem frF_W {I I1 I2 : HI} (h : frF I I1) (g : frW I1 I2) : frF I I2 := ⟨fun a a1 a2 => (g.1 a a1 (by omega)).trans (h.1 a a1 a2), fun k k1 k2 => (g.2 k (by omega)).trans (h.2.1 k k1 k2), (g.2 0 (by omega)).trans h.2.2⟩
theorem tab_W {I I' : HI} (hf : frW I I') (h : tabF I) : tabF I' := by
  simp only [tabF, hf.1 118 (by decide) (by decide), hf.1 119 (by decide) (by decide)]
  exact h
theorem fewI_W {I I' : HI} (hf : frW I I') (h0 : ¬ I 80 73 = 0) (h : tabF I) : fewI I' := Or.inr ⟨by rw [hf.2 73 (by decide)]; exact h0, tab_W hf h⟩
section BX
variable {d : Nat} {I : HI} {J : HJ} {R : HR} {x1 x2 x3 x4 : Int32}
theorem t_isState {Q : Bool → Prop} (hs : Stat R) (h1 : x1 < 0 → Q false) (h2 : ¬ x1 < 0 → 20 < x1 → Q false) (h3 : ¬ x1 < 0 → ¬ 20 < x1 → Q true) : Wp fb (d + 1) M_X12_isState [.int x1] I J R Q :=
  e_X12_isState hs ⟨h1, fun z => ⟨h2 z, h3 z⟩⟩
theorem m_few {Q : Int32 → HI → Prop} (hs : Stat R) (hw : fewI I) (h : ∀ I', frF I I' → fewI I' → Q (fewV x1 x2) I') : Wc fi (d + 3) M_X12_few [.ref 80, .int x1, .int x2] I J R Q := by
  refine e_X12_few hs ?_
  have h0 := h _ frF_0 (fewI_0 hw)
  simp only [fewV] at h h0
  refine ⟨fun q => ?_, fun q => ⟨fun q1 => ?_, fun q1 => t_isState hs (fun q2 => ⟨fun z => absurd z (by decide), fun _ => ?_⟩) (fun q2 q3 => ⟨fun z => absurd z (by decide), fun _ => ?_⟩) (fun q2 q3 => ⟨fun _ => ?_, fun z => absurd z (by decide)⟩)⟩⟩
  · rw [if_pos q] at h0; exact h0
  · rw [if_neg q, if_pos q1] at h0; exact h0
  · rw [if_neg q, if_neg q1, if_pos q2] at h0; exact h0
  · rw [if_neg q, if_neg q1, if_neg q2, if_neg (Int32.not_le.mpr q3)] at h0; exact h0
  · rw [if_neg q, if_neg q1, if_neg q2, if_pos (Int32.not_lt.mp q3)] at h
    obtain ⟨l, e1, e2, l1, l2⟩ := x_ab (a := 1) (b := 400) (by decide) (by decide) q q1
    obtain ⟨c, e3, e4, c1, c2⟩ := x_ab (a := 0) (b := 20) (by decide) (by decide) q2 q3
    rw [e2, e4] at h
    rw [e1, e3]
    refine t_laysFew hs (fewI_0 hw) (fun I' f1 f2 f3 => t_mat hs ⟨21 * l + c, rfl, by omega, ?_⟩)
    rw [f3.1 l c l1 l2 c2]
    exact h I' (frF_L frF_0 f1) (Or.inr ⟨f2, f3⟩)
theorem m_split {Q : Int32 → HI → Prop} (hs : Stat R) (hw : fewI I) (h : ∀ I', frF I I' → fewI I' → Q (splitV x1 x2) I') : Wc fi (d + 3) M_X12_split [.ref 80, .int x1, .int x2] I J R Q := by
  refine e_X12_split hs ?_
  have h0 := h _ frF_0 (fewI_0 hw)
  simp only [splitV] at h h0
  have n0 : ¬ x2 < 1 → ¬ x2 < 0 := by
    intro a b
    rw [x_lt0] at b
    rw [show (1 : Int32) = nI 1 from rfl, x_ltn x2 (by decide)] at a
    omega
  refine ⟨fun q => ?_, fun q => ⟨fun q1 => ?_, fun q1 => ⟨fun q2 => ?_, fun q2 => t_isState hs (fun q3 => absurd q3 (n0 q2)) (fun _ q3 => ⟨fun z => absurd z (by decide), fun _ => ?_⟩) (fun _ q3 => ⟨fun _ => ?_, fun z => absurd z (by decide)⟩)⟩⟩⟩
  · rw [if_pos q] at h0; exact h0
  · rw [if_neg q, if_pos q1] at h0; exact h0
  · rw [if_neg q, if_neg q1, if_pos q2] at h0; exact h0
  · rw [if_neg q, if_neg q1, if_neg q2, if_neg (Int32.not_le.mpr q3)] at h0; exact h0
  · rw [if_neg q, if_neg q1, if_neg q2, if_pos (Int32.not_lt.mp q3)] at h
    obtain ⟨l, e1, e2, l1, l2⟩ := x_ab (a := 2) (b := 400) (by decide) (by decide) q q1
    obtain ⟨c, e3, e4, c1, c2⟩ := x_ab (a := 1) (b := 20) (by decide) (by decide) q2 q3
    rw [e2, e4] at h
    rw [e1, e3]
    refine t_laysFew hs (fewI_0 hw) (fun I' f1 f2 f3 => t_mat hs ⟨21 * l + c, rfl, by omega, ?_⟩)
    rw [f3.2 l c l1 l2 c1 c2]
    exact h I' (frF_L frF_0 f1) (Or.inr ⟨f2, f3⟩)
theorem m_states {Q : Int32 → HI → Prop} (hs : Stat R) (hw : fewI I) (h : ∀ I', frF I I' → fewI I' → Q (statesV x1 x2) I') : Wc fi (d + 3) M_X12_states [.ref 80, .int x1, .int x2] I J R Q := by
  refine ⟨Nat.le_of_ble_eq_true rfl, fun K hK => ?_⟩
  refine g_X12_states_0 hK hs ?_
  have h0 := h _ frF_0 (fewI_0 hw)
  simp only [statesV] at h h0
  refine ⟨fun q => ?_, fun q => ⟨fun q1 => ?_, fun q1 => ⟨fun q2 => ?_, fun q2 => ?_⟩⟩⟩
  · rw [if_pos q] at h0; exact h0
  · rw [if_neg q, if_pos q1] at h0; exact h0
  · rw [if_neg q, if_neg q1, if_pos q2] at h
    obtain ⟨l, e1, e2, l1, l2⟩ := x_ab (a := 1) (b := 400) (by decide) (by decide) q q1
    obtain ⟨n, e3, e4, n2⟩ := x_a (x := x2) (by rw [x_lt0]; rw [x_0le] at q2; omega)
    rw [e2, e4] at h
    rw [e1, e3]
    refine t_laysFew hs (fewI_0 hw) (fun I' f1 f2 f3 => ?_)
    have hq := h I' (frF_L frF_0 f1) (Or.inr ⟨f2, f3⟩)
    have loop : ∀ (m c : Nat), c + m = 21 → Q (stF l n m c) I' → K 29 [(0, .ref 80), (1, .int (nI l)), (2, .int (nI n)), (3, .int (nI c))] [] I' J R := by
      intro m
      induction m with
      | zero =>
        intro c hc hq
        have : c = 21 := by omega
        subst this
        exact g_X12_states_29 hK hs ⟨fun _ => hq, fun z => absurd (by decide) z⟩
      | succ m ih =>
        intro c hc hq
        refine g_X12_states_29 hK hs ⟨fun z => absurd z (nI_nlt (a := 20) (by omega) (by omega)), fun _ => ?_⟩
        refine t_mat hs ⟨21 * l + c, rfl, by omega, ?_⟩
        rw [f3.1 l c l1 l2 (by omega)]
        have b3 := fwN_le l c
        have ce : (nI n < nI (fwN l c)) ↔ n < fwN l c := nI_ltI n2 (by omega)
        rw [ce, nI_1]
        simp only [stF] at hq
        refine ⟨fun z => ?_, fun z => ?_⟩
        · rw [if_pos z] at hq
          exact ih (c + 1) (by omega) hq
        · rw [if_neg z] at hq
          exact hq
    exact loop 21 0 (by omega) hq
  · rw [if_neg q, if_neg q1, if_neg q2] at h0; exact h0
theorem t_macts {S : Nat → Int32} {k a b : Nat} {Q : Unit → HI → Prop} (hs : Stat R) (hk : k ≤ 3) (hS : mS I S) (h : ∀ I', frW I I' → mS I' (adS S (k, a, b)) → Q () I') : Wc fv (d + 1) M_X12_acts [.ref 80, .int (nI k), .int (nI a), .int (nI b)] I J R Q := by
  refine ⟨Nat.le_of_ble_eq_true rfl, fun K hK => ?_⟩
  have k1 : (nI k = (1 : Int32)) ↔ k = 1 := nI_eq (b := 1) (by omega) (by decide)
  have k3 : (nI k = (3 : Int32)) ↔ k = 3 := nI_eq (b := 3) (by omega) (by decide)
  obtain ⟨s0, s1, s2, s3, s4, s5, s6, s7⟩ := id hS
  have last : ∀ (y : Int32) (I1 : HI), frW I I1 → y = (if k = 1 then 1 else if k = 3 then -1 else 0) → I1 80 75 = S 0 → I1 80 74 = S 1 + 1 → I1 80 77 = S 2 + (nI b - nI a) → I1 80 79 = S 4 → I1 120 0 = (if S 1 = S 0 then nI k else S 5) → I1 120 1 = (if S 1 = S 0 then nI a else S 6) → I1 120 2 = (if S 1 = S 0 then nI b else S 7) → K 78 [(0, .ref 80)] [.int y, .int (S 3), .ref 80] I1 J R := by
    intro y I1 f0 hy f1 f2 f3 f4 f5 f6 f7
    refine g_X12_acts_78 hK hs ?_
    rw [f4]
    refine ⟨fun z => ?_, fun z => ?_⟩
    · refine h _ (frW_f (by decide) (frW_f (by decide) f0)) ⟨?_, ?_, ?_, ?_, ?_, ?_, ?_, ?_⟩
      · simp [up_ap, adS, f1]
      · simp [up_ap, adS, f2]
      · simp [up_ap, adS, f3]
      · simp [up_ap, adS, hy]
      · have z' : ¬ S 4 < S 3 + (if k = 1 then 1 else if k = 3 then -1 else 0) := by rw [← hy]; exact Int32.not_lt.mpr z
        rw [up_s]
        show S 4 = adS S (k, a, b) 4
        show S 4 = if S 4 < S 3 + (if k = 1 then 1 else if k = 3 then -1 else 0) then S 3 + (if k = 1 then 1 else if k = 3 then -1 else 0) else S 4
        rw [if_neg z']
      · simp [up_ap, adS, f5]
      · simp [up_ap, adS, f6]
      · simp [up_ap, adS, f7]
    · refine h _ (frW_f (by decide) (frW_f (by decide) f0)) ⟨?_, ?_, ?_, ?_, ?_, ?_, ?_, ?_⟩
      · simp [up_ap, adS, f1]
      · simp [up_ap, adS, f2]
      · simp [up_ap, adS, f3]
      · simp [up_ap, adS, hy]
      · have z' : S 4 < S 3 + (if k = 1 then 1 else if k = 3 then -1 else 0) := by rw [← hy]; exact Int32.not_le.mp z
        rw [up_s]
        show S 3 + y = if S 4 < S 3 + (if k = 1 then 1 else if k = 3 then -1 else 0) then S 3 + (if k = 1 then 1 else if k = 3 then -1 else 0) else S 4
        rw [if_pos z', hy]
      · simp [up_ap, adS, f5]
      · simp [up_ap, adS, f6]
      · simp [up_ap, adS, f7]
  have mid : ∀ (I1 : HI), frW I I1 → I1 80 75 = S 0 → I1 80 74 = S 1 → I1 80 77 = S 2 → I1 80 78 = S 3 → I1 80 79 = S 4 → I1 120 0 = (if S 1 = S 0 then nI k else S 5) → I1 120 1 = (if S 1 = S 0 then nI a else S 6) → I1 120 2 = (if S 1 = S 0 then nI b else S 7) → K 32 [(0, .ref 80), (1, .int (nI k)), (2, .int (nI a)), (3, .int (nI b))] [] I1 J R := by
    intro I1 f0 f1 f2 f3 f3' f4 f5 f6 f7
    refine g_X12_acts_32 hK hs ?_
    rw [k1, k3, f2, f3, f3']
    have go : ∀ y : Int32, y = (if k = 1 then 1 else if k = 3 then -1 else 0) → K 78 [(0, .ref 80)] [.int y, .int (S 3), .ref 80] (up (up I1 80 74 (S 1 + 1)) 80 77 (S 2 + (nI b - nI a))) J R := by
      intro y hy
      refine last y _ (frW_f (by decide) (frW_f (by decide) f0)) hy ?_ ?_ ?_ ?_ ?_ ?_ ?_
      · simp [up_ap, f1]
      · simp [up_ap]
      · simp [up_ap]
      · simp [up_ap, f4]
      · simp [up_ap, f5]
      · simp [up_ap, f6]
      · simp [up_ap, f7]
    refine ⟨fun z => ⟨fun y => ?_, fun y => ?_⟩, fun z => ?_⟩
    · exact go 0 (by rw [if_neg z, if_neg y])
    · exact go (-1) (by rw [if_neg z, if_pos y])
    · exact go 1 (by rw [if_pos z])
  refine g_X12_acts_0 hK hs ?_
  rw [s0, s1]
  refine ⟨fun z => ?_, fun z => ?_⟩
  · exact mid I frW_rf s0 s1 s2 s3 s4 (by rw [if_neg z, s5]) (by rw [if_neg z, s6]) (by rw [if_neg z, s7])
  · refine mid _ (frW_u (frW_u (frW_u frW_rf))) ?_ ?_ ?_ ?_ ?_ ?_ ?_ ?_
    · simp [up_ap, s0]
    · simp [up_ap, s1]
    · simp [up_ap, s2]
    · simp [up_ap, s3]
    · simp [up_ap, s4]
    · simp [up_ap, z]
    · simp [up_ap, z]
    · simp [up_ap, z]
theorem t_backward (hs : Stat R) : ∀ (f a b c : Nat) (S : Nat → Int32) (I : HI) (Q : Unit → HI → Prop), a < b → b ≤ 60 → b - a ≤ f → c ≤ 20 → tabF I → mS I S → (∀ I', frW I I' → mS I' ((acL f a b c).foldl adS S) → Q () I') → Wc fv (d + f + 2) M_X12_backward_ [.ref 80, .int (nI a), .int (nI b), .int (nI c)] I J R Q := by
  intro f
  induction f with
  | zero => intro a b c S I Q h1 h2 h3; omega
  | succ f ih =>
    intro a b c S I Q hab hb hf hc ht hS h
    refine ⟨Nat.le_of_ble_eq_true rfl, fun K hK => ?_⟩
    refine g_X12_backward__0 hK hs ?_
    rw [pk_sub (by omega)]
    have c1 : (nI (b - a) = (1 : Int32)) ↔ b - a = 1 := nI_eq (b := 1) (by omega) (by decide)
    have c0 : (nI c = (0 : Int32)) ↔ c = 0 := nI_eq (b := 0) (by omega) (by decide)
    rw [c1, c0]
    simp only [acL] at h
    refine ⟨fun z => ⟨fun z0 => ?_, fun z0 => ?_⟩, fun z => ?_⟩
    · rw [if_neg (by omega)] at h
      refine t_mat hs ⟨21 * (b - a) + c, rfl, by omega, ?_⟩
      rw [ht.2 (b - a) c (by omega) (by omega) (by omega) hc]
      have hsp := splN_in (l := b - a) (c := c) (by omega)
      generalize splN (b - a) c = s at h hsp
      simp only [List.foldl_cons, List.foldl_append] at h
      rw [nI_add, sub1 (by omega)]
      refine t_macts (k := 0) hs (by omega) hS (fun I2 e1 e2 => ?_)
      refine t_macts (k := 1) hs (by omega) e2 (fun I3 e3 e4 => ?_)
      have w3 := frW_tr e1 e3
      refine ih (a + s) b (c - 1) _ I3 _ (by omega) (by omega) (by omega) (by omega) (tab_W w3 ht) e4 (fun I4 e5 e6 => ?_)
      refine t_macts (k := 3) hs (by omega) e6 (fun I5 e7 e8 => ?_)
      have w5 := frW_tr (frW_tr w3 e5) e7
      exact ih a (a + s) c _ I5 _ (by omega) (by omega) (by omega) (by omega) (tab_W w5 ht) e8 (fun I6 e9 e10 => h I6 (frW_tr w5 e9) e10)
    · rw [if_pos (Or.inr z0)] at h
      have tail : ∀ (m : Nat) (S1 : Nat → Int32) (I1 : HI), a + m ≤ 60 → frW I I1 → mS I1 S1 → (taL a m).foldl adS S1 = (taL a (b - a)).foldl adS S → K 28 [(0, .ref 80), (1, .int (nI a)), (5, .int (nI (a + m) + (-1)))] [] I1 J R := by
        intro m
        induction m with
        | zero =>
          intro S1 I1 hm f1 f2 he
          refine g_X12_backward__28 hK hs ⟨fun _ => h I1 f1 ?_, fun z => absurd (m1_lt (by omega)) z⟩
          rw [← he]
          exact f2
        | succ m ihm =>
          intro S1 I1 hm f1 f2 he
          rw [show a + (m + 1) = a + m + 1 by omega, pk_m1]
          refine g_X12_backward__28 hK hs ⟨fun z => absurd z (nI_nlt (by omega) (by omega)), fun _ => ?_⟩
          have cl : (nI (a + m) = nI a) ↔ m = 0 := by rw [nI_eq (by omega) (by omega)]; omega
          rw [cl]
          simp only [taL] at he
          refine ⟨fun z => ?_, fun z => ?_⟩
          · rw [if_pos z] at he
            refine t_macts (k := 2) hs (by omega) f2 (fun I2 e1 e2 => ?_)
            refine ihm _ I2 (by omega) (frW_tr f1 e1) e2 ?_
            rw [← he]
            subst z
            rfl
          · rw [if_neg z] at he
            refine t_macts (k := 0) hs (by omega) f2 (fun I2 e1 e2 => ?_)
            refine t_macts (k := 2) hs (by omega) e2 (fun I3 e3 e4 => ?_)
            exact ihm _ I3 (by omega) (frW_tr (frW_tr f1 e1) e3) e4 he
      have := tail (b - a) S I (by omega) frW_rf hS rfl
      rw [show a + (b - a) = b by omega, ← Int32.sub_eq_add_neg] at this
      exact this
    · rw [if_pos (Or.inl (by omega)), z] at h
      refine t_macts (k := 2) hs (by omega) hS (fun I2 e1 e2 => h I2 e1 ?_)
      exact e2
theorem t_allActs {l c : Nat} {w : Int32} {Q : Unit → HI → Prop} (hs : Stat R) (hw : fewI I) (hl : 1 ≤ l) (hl2 : l ≤ 60) (hc : c ≤ 20) (h : ∀ I' S, (∀ I0, frF I0 I → frF I0 I') → fewI I' → mS I' ((acL 60 0 l c).foldl adS S) → (∀ j, j ≤ 4 → S j = stS w j) → Q () I') : Wc fv (d + 63) M_X12_allActs [.ref 80, .int (nI l), .int (nI c), .int w] I J R Q := by
  refine e_X12_allActs hs ?_
  refine t_laysFew hs hw (fun I1 f1 f2 f3 => ?_)
  have w1 : frW I1 (up (up (up (up (up I1 80 74 0) 80 75 w) 80 77 0) 80 78 0) 80 79 0) := frW_f (by decide) (frW_f (by decide) (frW_f (by decide) (frW_f (by decide) (frW_f (by decide) frW_rf))))
  refine t_backward hs 60 0 l c (fun j => if j = 0 then w else if j ≤ 4 then 0 else I1 120 (j - 5)) _ _ (by omega) hl2 (by omega) hc (tab_W w1 f3) ⟨?_, ?_, ?_, ?_, ?_, ?_, ?_, ?_⟩ (fun I2 e1 e2 => h I2 _ (fun I0 h0 => frF_W (frF_L h0 f1) (frW_tr w1 e1)) (fewI_W (frW_tr w1 e1) f2 f3) e2 (fun j hj => ?_))
  · simp [up_ap]
  · simp [up_ap]
  · simp [up_ap]
  · simp [up_ap]
  · simp [up_ap]
  · simp [up_ap]
  · simp [up_ap]
  · simp [up_ap]
  · simp only [stS]
    by_cases hj0 : j = 0
    · rw [if_pos hj0, if_pos hj0]
    · rw [if_neg hj0, if_neg hj0, if_pos hj, if_pos hj]
theorem m_action {Q : Int32 → HI → Prop} (hs : Stat R) (hw : fewI I) (h : ∀ I', frF I I' → fewI I' → Q (actionV x1 x2 x3 x4) I') : Wc fi (d + 64) M_X12_action [.ref 80, .int x1, .int x2, .int x3, .int x4] I J R Q := by
  refine e_X12_action hs ?_
  have h0 := h _ frF_0 (fewI_0 hw)
  simp only [actionV] at h h0
  refine ⟨fun q => ?_, fun q => ⟨fun q1 => ?_, fun q1 => t_isState hs (fun q2 => ⟨fun _ => ?_, fun z => absurd z (by decide)⟩) (fun q2 q3 => ⟨fun _ => ?_, fun z => absurd z (by decide)⟩) (fun q2 q3 => ⟨fun z => absurd z (by decide), fun _ => ⟨fun q4 => ?_, fun q4 => ⟨fun q5 => ?_, fun q5 => ⟨fun q6 => ?_, fun q6 => ?_⟩⟩⟩⟩)⟩⟩
  · rw [if_pos q] at h0; exact h0
  · rw [if_neg q, if_pos q1] at h0; exact h0
  · rw [if_neg q, if_neg q1, if_pos q2] at h0; exact h0
  · rw [if_neg q, if_neg q1, if_neg q2, if_pos q3] at h0; exact h0
  · rw [if_neg q, if_neg q1, if_neg q2, if_neg q3, if_pos q4] at h0; exact h0
  · rw [if_neg q, if_neg q1, if_neg q2, if_neg q3, if_neg q4, if_pos q5] at h0; exact h0
  · rw [if_neg q, if_neg q1, if_neg q2, if_neg q3, if_neg q4, if_neg q5, if_pos q6] at h
    obtain ⟨l, e1, e2, l1, l2⟩ := x_ab (a := 1) (b := 60) (by decide) (by decide) q q1
    obtain ⟨c, e3, e4, c1, c2⟩ := x_ab (a := 0) (b := 20) (by decide) (by decide) q2 q3
    obtain ⟨n, e5, e6, n2⟩ := x_a q4
    obtain ⟨k, e7, e8, k1, k2⟩ := x_ab' (a := 0) (b := 2) (by decide) (by decide) q5 q6
    have eW : walkS x1 x2 x3 = (acL 60 0 l c).foldl adS (stS x3) := by simp only [walkS, e2, e4]
    rw [eW] at h
    rw [e1, e3]
    refine t_allActs hs (fewI_0 hw) l1 l2 c2 (fun I' S f1 f2 f3 f4 => ?_)
    have hq := h I' (f1 I frF_0) f2
    have len := acL_len 60 0 l c (by omega)
    have S1 : S 1 = nI 0 := (f4 1 (by omega)).trans rfl
    have S0 : S 0 = nI n := by rw [f4 0 (by omega), ← e5]; rfl
    have g1 := fold_n (acL 60 0 l c) S 0 S1
    have g2 := fold_n (acL 60 0 l c) (stS x3) 0 rfl
    rw [Nat.zero_add] at g1 g2
    rw [f3.2.1, g1]
    rw [g2] at hq
    have ce : (x3 < nI (acL 60 0 l c).length) ↔ n < (acL 60 0 l c).length := by rw [e5, nI_ltI n2 (by omega)]
    have ce2 : (nI (acL 60 0 l c).length ≤ x3) ↔ (acL 60 0 l c).length ≤ n := by rw [e5, nI_leI (by omega) n2]
    rw [ce2]
    by_cases hn : n < (acL 60 0 l c).length
    · refine ⟨fun z => by omega, fun _ => ⟨k, e7, by omega, ?_⟩⟩
      rw [if_pos (ce.mpr hn)] at hq
      have hit := fold_hit (acL 60 0 l c) S (stS x3) n 0 f4 S0 S1 (by omega) (by omega) (by omega)
      rw [e7] at hq
      have : k = 0 ∨ k = 1 ∨ k = 2 := by omega
      rcases this with rfl | rfl | rfl
      · rw [if_pos (by decide)] at hq
        rw [f3.2.2.2.2.2.1, hit 5 (by omega)]
        exact hq
      · rw [if_neg (by decide), if_pos (by decide)] at hq
        rw [f3.2.2.2.2.2.2.1, hit 6 (by omega)]
        exact hq
      · rw [if_neg (by decide), if_neg (by decide)] at hq
        rw [f3.2.2.2.2.2.2.2, hit 7 (by omega)]
        exact hq
    · refine ⟨fun _ => ?_, fun z => by omega⟩
      rw [if_neg (fun q => hn (ce.mp q))] at hq
      exact hq
  · rw [if_neg q, if_neg q1, if_neg q2, if_neg q3, if_neg q4, if_neg q5, if_neg q6] at h0; exact h0
theorem m_actions {Q : Int32 → HI → Prop} (hs : Stat R) (hw : fewI I) (h : ∀ I', frF I I' → fewI I' → Q (actionsV x1 x2 x3) I') : Wc fi (d + 64) M_X12_actions [.ref 80, .int x1, .int x2, .int x3] I J R Q := by
  refine e_X12_actions hs ?_
  have h0 := h _ frF_0 (fewI_0 hw)
  simp only [actionsV] at h h0
  refine ⟨fun q => ?_, fun q => ⟨fun q1 => ?_, fun q1 => t_isState hs (fun q2 => ⟨fun _ => ?_, fun z => absurd z (by decide)⟩) (fun q2 q3 => ⟨fun _ => ?_, fun z => absurd z (by decide)⟩) (fun q2 q3 => ⟨fun z => absurd z (by decide), fun _ => ⟨fun q4 => ?_, fun q4 => ⟨fun q5 => ?_, fun q5 => ?_⟩⟩⟩)⟩⟩
  · rw [if_pos q] at h0; exact h0
  · rw [if_neg q, if_pos q1] at h0; exact h0
  · rw [if_neg q, if_neg q1, if_pos q2] at h0; exact h0
  · rw [if_neg q, if_neg q1, if_neg q2, if_pos q3] at h0; exact h0
  · rw [if_neg q, if_neg q1, if_neg q2, if_neg q3, if_pos q4] at h0; exact h0
  · rw [if_neg q, if_neg q1, if_neg q2, if_neg q3, if_neg q4, if_pos q5] at h
    obtain ⟨l, e1, e2, l1, l2⟩ := x_ab (a := 1) (b := 60) (by decide) (by decide) q q1
    obtain ⟨c, e3, e4, c1, c2⟩ := x_ab (a := 0) (b := 20) (by decide) (by decide) q2 q3
    have eW : walkS x1 x2 (-1) = (acL 60 0 l c).foldl adS (stS (-1)) := by simp only [walkS, e2, e4]
    rw [eW] at h
    rw [e1, e3]
    refine t_allActs hs (fewI_0 hw) l1 l2 c2 (fun I' S f1 f2 f3 f4 => ?_)
    have hq := h I' (f1 I frF_0) f2
    have fe := (fold_eq (acL 60 0 l c) S (stS (-1)) f4).1
    rw [f3.2.1, f3.2.2.1, f3.2.2.2.2.1, fe 1 (by omega), fe 2 (by omega), fe 4 (by omega)]
    refine ⟨fun y => ⟨fun y2 => ?_, fun y2 => ?_⟩, fun y => ?_⟩
    · rw [if_neg y, if_neg y2] at hq; exact hq
    · rw [if_neg y, if_pos y2] at hq; exact hq
    · rw [if_pos y] at hq; exact hq
  · rw [if_neg q, if_neg q1, if_neg q2, if_neg q3, if_neg q4, if_neg q5] at h0; exact h0
end BX
