/-! the reference's TOKENS -/
def mtok (I : HI) (k v : Nat) : Prop :=
  (k = 0 ∧ I 80 7 = 3)
  ∨ (k = 1 ∧ I 80 7 = 0 ∧ I 80 8 = nI v)
  ∨ (k = 2 ∧ I 80 7 = 1 ∧ ∃ r, I 80 8 = nI r ∧ r < 2 ^ 31 ∧ ((r ≤ 9999 ∧ v = r) ∨ (10000 ≤ r ∧ v = 10000)))
  ∨ (k = 3 ∧ I 80 7 = 2 ∧ I 80 8 = nI v)
  ∨ (k = 4 ∧ I 80 7 = 4)
  ∨ (k = 5 ∧ I 80 7 = 0 ∧ I 80 8 = 900000)
def mtR (I : HI) (t : Nat → Nat) : Prop := I 80 5 = nI (t 3) ∧ I 80 6 = nI (t 2) ∧ mtok I (t 0) (t 1)
def frT (I I' : HI) : Prop := (∀ c, ¬ c = 80 → I' c = I c) ∧ ∀ k, (k < 5 ∨ 8 < k) → I' 80 k = I 80 k
theorem frT_rf {I : HI} : frT I I := ⟨fun _ _ => rfl, fun _ _ => rfl⟩
theorem frT_u {I I1 : HI} {k : Nat} {x : Int32} (h1 : 5 ≤ k) (h2 : k ≤ 8) (h : frT I I1) : frT I (up I1 80 k x) := ⟨fun c hc => (up_ne _ _ _ _ hc).trans (h.1 c hc), fun j hj => (up_nk (by omega)).trans (h.2 j hj)⟩
def hvI (B : Nat → Nat) (n p : Nat) : Int32 := if p < n then nI (B p) else -1
theorem hv_eq {B : Nat → Nat} {n p k : Nat} (hB : B p < 256) (hk : k < 256) : (hvI B n p = nI k) ↔ (p < n ∧ B p = k) := by
  simp only [hvI]
  split
  · rename_i h
    rw [nI_eq (by omega) (by omega)]
    omega
  · rename_i h
    constructor
    · intro q
      have := congrArg Int32.toInt q
      rw [nI_toInt (by omega), show (-1 : Int32).toInt = -1 from rfl] at this
      omega
    · intro q
      omega
theorem hv_m1 {B : Nat → Nat} {n p : Nat} (hB : B p < 256) : (hvI B n p = -1) ↔ ¬ p < n := by
  simp only [hvI]
  split
  · rename_i h
    constructor
    · intro q
      have := congrArg Int32.toInt q
      rw [nI_toInt (by omega), show (-1 : Int32).toInt = -1 from rfl] at this
      omega
    · intro q
      omega
  · rename_i h
    exact ⟨fun _ => h, fun _ => rfl⟩
theorem hv_lt {B : Nat → Nat} {n p k : Nat} (hB : B p < 256) (hk : k < 256) : (hvI B n p < nI k) ↔ (¬ p < n ∨ B p < k) := by
  simp only [hvI]
  split
  · rename_i h
    rw [nI_ltI (by omega) (by omega)]
    omega
  · rename_i h
    rw [Int32.lt_iff_toInt_lt, nI_toInt (by omega), show (-1 : Int32).toInt = -1 from rfl]
    omega
theorem hv_gt {B : Nat → Nat} {n p k : Nat} (hB : B p < 256) (hk : k < 256) : (nI k < hvI B n p) ↔ (p < n ∧ k < B p) := by
  simp only [hvI]
  split
  · rename_i h
    rw [nI_ltI (by omega) (by omega)]
    omega
  · rename_i h
    rw [Int32.lt_iff_toInt_lt, nI_toInt (by omega), show (-1 : Int32).toInt = -1 from rfl]
    omega
section CB
variable {d : Nat} {I : HI} {J : HJ} {R : HR} {B : Nat → Nat} {n p : Nat}
theorem t_here {Q : Int32 → Prop} (hs : Stat R) (hn : n ≤ 900) (hp : p ≤ n) (h4 : I 80 4 = nI n) (h5 : I 80 5 = nI p) (hb : ∀ j, j < n → I 81 j = nI (B j)) (h : Q (hvI B n p)) : Wp fi (d + 1) M_X12_here [.ref 80] I J R Q := by
  refine e_X12_here hs ?_
  rw [h4, h5]
  simp only [hvI] at h
  have cl : (nI n ≤ nI p) ↔ n ≤ p := nI_leI (by omega) (by omega)
  rw [cl]
  refine ⟨fun z => ?_, fun z => ⟨p, rfl, by omega, ?_⟩⟩
  · rw [if_neg (by omega)] at h; exact h
  · rw [if_pos (by omega)] at h
    rw [hb p (by omega)]
    exact h
theorem t_isSmall {Q : Bool → Prop} (hs : Stat R) (hB : ∀ j, B j < 256) (h : Q (smA B n p)) : Wp fb (d + 1) M_X12_isSmall [.int (hvI B n p)] I J R Q := by
  refine e_X12_isSmall hs ?_
  have q1 : (hvI B n p < (97 : Int32)) ↔ (¬ p < n ∨ B p < 97) := hv_lt (k := 97) (hB _) (by decide)
  have q2 : ((122 : Int32) < hvI B n p) ↔ (p < n ∧ 122 < B p) := hv_gt (k := 122) (hB _) (by decide)
  rw [q1, q2]
  refine ⟨fun z => ?_, fun z => ⟨fun y => ?_, fun y => ?_⟩⟩
  · rw [show smA B n p = false from decide_eq_false (by omega)] at h; exact h
  · rw [show smA B n p = false from decide_eq_false (by omega)] at h; exact h
  · rw [show smA B n p = true from decide_eq_true (by omega)] at h; exact h
theorem t_isDigit {Q : Bool → Prop} (hs : Stat R) (hB : ∀ j, B j < 256) (h : Q (dgA B n p)) : Wp fb (d + 1) M_X12_isDigit [.int (hvI B n p)] I J R Q := by
  refine e_X12_isDigit hs ?_
  have q1 : (hvI B n p < (48 : Int32)) ↔ (¬ p < n ∨ B p < 48) := hv_lt (k := 48) (hB _) (by decide)
  have q2 : ((57 : Int32) < hvI B n p) ↔ (p < n ∧ 57 < B p) := hv_gt (k := 57) (hB _) (by decide)
  rw [q1, q2]
  refine ⟨fun z => ?_, fun z => ⟨fun y => ?_, fun y => ?_⟩⟩
  · rw [show dgA B n p = false from decide_eq_false (by omega)] at h; exact h
  · rw [show dgA B n p = false from decide_eq_false (by omega)] at h; exact h
  · rw [show dgA B n p = true from decide_eq_true (by omega)] at h; exact h
theorem t_isMark {b : Nat} {Q : Bool → Prop} (hs : Stat R) (hB : b < 256) (h : Q (mkB b)) : Wp fb (d + 1) M_X12_isMark [.int (nI b)] I J R Q := by
  refine ⟨Nat.le_of_ble_eq_true rfl, fun K hK => ?_⟩
  have yes : mkB b = true → K 66 [] [] I J R := fun z => g_X12_isMark_66 hK hs (by rw [z] at h; exact h)
  have e : ∀ k : Nat, k < 256 → ((nI b = nI k) ↔ b = k) := fun k hk => nI_eq (by omega) (by omega)
  have e1 : (nI b = (59 : Int32)) ↔ b = 59 := e 59 (by decide)
  have e2 : (nI b = (61 : Int32)) ↔ b = 61 := e 61 (by decide)
  have e3 : (nI b = (60 : Int32)) ↔ b = 60 := e 60 (by decide)
  have e4 : (nI b = (91 : Int32)) ↔ b = 91 := e 91 (by decide)
  have e5 : (nI b = (93 : Int32)) ↔ b = 93 := e 93 (by decide)
  have e6 : (nI b = (40 : Int32)) ↔ b = 40 := e 40 (by decide)
  have e7 : (nI b = (41 : Int32)) ↔ b = 41 := e 41 (by decide)
  have e8 : (nI b = (43 : Int32)) ↔ b = 43 := e 43 (by decide)
  have e9 : (nI b = (45 : Int32)) ↔ b = 45 := e 45 (by decide)
  have e10 : (nI b = (42 : Int32)) ↔ b = 42 := e 42 (by decide)
  have e11 : (nI b = (47 : Int32)) ↔ b = 47 := e 47 (by decide)
  refine g_X12_isMark_0 hK hs ?_
  rw [e1, e2, e3, e4, e5, e6, e7, e8, e9, e10, e11]
  refine ⟨fun z => yes (decide_eq_true (by omega)), fun z1 => ⟨fun z => yes (decide_eq_true (by omega)), fun z2 => ⟨fun z => yes (decide_eq_true (by omega)), fun z3 => ⟨fun z => yes (decide_eq_true (by omega)), fun z4 => ⟨fun z => yes (decide_eq_true (by omega)), fun z5 => ⟨fun z => yes (decide_eq_true (by omega)), fun z6 => ⟨fun z => yes (decide_eq_true (by omega)), fun z7 => ⟨fun z => yes (decide_eq_true (by omega)), fun z8 => ⟨fun z => yes (decide_eq_true (by omega)), fun z9 => ⟨fun z => yes (decide_eq_true (by omega)), fun z10 => ⟨fun z11 => ?_, fun z => yes (decide_eq_true (by omega))⟩⟩⟩⟩⟩⟩⟩⟩⟩⟩⟩
  rw [show mkB b = false from decide_eq_false (by omega)] at h
  exact h
theorem t_wordHere {s : Nat} {Q : Unit → HI → Prop} (hs : Stat R) (hn : n ≤ 900) (hsn : smA B n s = true) (h4 : I 80 4 = nI n) (h5 : I 80 5 = nI s) (h6 : I 80 6 = nI s) (hb : ∀ j, j < n → I 81 j = nI (B j)) (hB : ∀ j, B j < 256) (h : ∀ I', frT I I' → mtR I' (wdT B s (spn (smA B n) (n - s) s)) → Q () I') : Wc fv (d + 2) M_X12_wordHere [.ref 80] I J R Q := by
  refine ⟨Nat.le_of_ble_eq_true rfl, fun K hK => ?_⟩
  have hs1 := smA_t hsn
  have fin : ∀ (l : Nat) (I1 : HI), 1 ≤ l → s + l ≤ n → frT I I1 → I1 80 5 = nI (s + l) → I1 80 6 = nI s → I1 80 8 = nI (wvF B s (min l 4)) → (∀ I', frT I I' → mtR I' (wdT B s (s + l)) → Q () I') → (∀ j, j < l → 97 ≤ B (s + j) ∧ B (s + j) ≤ 122) → K 83 [(0, .ref 80), (1, .int (nI l))] [.int (if 4 < l then 4 else 0), .ref 80] I1 J R := by
    intro l I1 hl hsl f1 f5 f6 f8 hq hlet
    have el : s + l - s = l := by omega
    refine g_X12_wordHere_83 hK hs ?_
    have c5 : (nI l = (5 : Int32)) ↔ l = 5 := nI_eq (b := 5) (by omega) (by decide)
    rw [c5]
    have no : ¬ (l = 5 ∧ alB B s = true) → K 173 [(0, .ref 80)] [] (up I1 80 7 (if 4 < l then 4 else 0)) J R := by
      intro hno
      refine g_X12_wordHere_173 hK hs (hq _ (frT_u (by decide) (by decide) f1) ?_)
      simp only [wdT, el]
      by_cases h4 : l ≤ 4
      · rw [if_pos h4, if_neg (by omega)]
        refine ⟨by simp [up_ap, f5, tkT], by simp [up_ap, f6, tkT], Or.inr (Or.inl ⟨rfl, by simp [up_ap], ?_⟩)⟩
        rw [up_nk (by decide), f8, Nat.min_eq_left h4]
        rfl
      · rw [if_neg h4, if_neg hno, if_pos (by omega)]
        exact ⟨by simp [up_ap, f5, tkT], by simp [up_ap, f6, tkT], Or.inr (Or.inr (Or.inr (Or.inr (Or.inl ⟨rfl, by simp [up_ap]⟩))))⟩
    refine ⟨fun z => no (fun q => z q.1), fun z => ?_⟩
    subst z
    have tb : ∀ j, j < 5 → I1 81 (s + j) = nI (B (s + j)) := fun j hj => by rw [f1.1 81 (by decide), hb _ (by omega)]
    have e : ∀ (j k : Nat), k < 256 → ((nI (B (s + j)) = nI k) ↔ B (s + j) = k) := fun j k hk => nI_eq (by have := hB (s + j); omega) (by omega)
    have t0 : I1 81 s = nI (B s) := tb 0 (by omega)
    have e0 : (nI (B s) = (97 : Int32)) ↔ B s = 97 := e 0 97 (by decide)
    have e1 : (nI (B (s + 1)) = (108 : Int32)) ↔ B (s + 1) = 108 := e 1 108 (by decide)
    have e2 : (nI (B (s + 2)) = (105 : Int32)) ↔ B (s + 2) = 105 := e 2 105 (by decide)
    have e3 : (nI (B (s + 3)) = (97 : Int32)) ↔ B (s + 3) = 97 := e 3 97 (by decide)
    have e4 : (nI (B (s + 4)) = (115 : Int32)) ↔ B (s + 4) = 115 := e 4 115 (by decide)
    have nal : ∀ P : Prop, P → (alB B s = true → ¬ P) → ¬ (5 = 5 ∧ alB B s = true) := fun P p q r => q r.2 p
    refine ⟨s, f6, by omega, ?_⟩
    rw [t0, e0, f6]
    refine ⟨fun z => no (fun q => z (of_decide_eq_true q.2).1), fun z0 => ⟨s + 1, nI_add s 1, by omega, ?_⟩⟩
    rw [tb 1 (by omega), e1]
    refine ⟨fun z => no (fun q => z (of_decide_eq_true q.2).2.1), fun z1 => ⟨s + 2, nI_add s 2, by omega, ?_⟩⟩
    rw [tb 2 (by omega), e2]
    refine ⟨fun z => no (fun q => z (of_decide_eq_true q.2).2.2.1), fun z2 => ⟨s + 3, nI_add s 3, by omega, ?_⟩⟩
    rw [tb 3 (by omega), e3]
    refine ⟨fun z => no (fun q => z (of_decide_eq_true q.2).2.2.2.1), fun z3 => ⟨s + 4, nI_add s 4, by omega, ?_⟩⟩
    rw [tb 4 (by omega), e4]
    refine ⟨fun z => no (fun q => z (of_decide_eq_true q.2).2.2.2.2), fun z4 => ?_⟩
    refine hq _ (frT_u (by decide) (by decide) (frT_u (by decide) (by decide) (frT_u (by decide) (by decide) f1))) ?_
    have ew : wdT B s (s + 5) = tkT 5 0 s (s + 5) := by
      simp only [wdT, el]
      rw [if_neg (by decide), if_pos ⟨trivial, decide_eq_true ⟨z0, z1, z2, z3, z4⟩⟩]
    rw [ew]
    exact ⟨by simp [up_ap, f5, tkT], by simp [up_ap, f6, tkT], Or.inr (Or.inr (Or.inr (Or.inr (Or.inr ⟨rfl, by simp [up_ap], by simp [up_ap]⟩))))⟩
  have loop : ∀ (m l : Nat) (I1 : HI), s + l + m = n → frT I I1 → I1 80 5 = nI (s + l) → I1 80 6 = nI s → I1 80 8 = nI (wvF B s (min l 4)) → (∀ j, j < l → 97 ≤ B (s + j) ∧ B (s + j) ≤ 122) → (∀ I', frT I I' → mtR I' (wdT B s (spn (smA B n) m (s + l))) → Q () I') → K 5 [(0, .ref 80)] [] I1 J R := by
    intro m
    induction m with
    | zero =>
      intro l I1 hsl f1 f5 f6 f8 f9 hq
      simp only [spn] at hq
      refine g_X12_wordHere_5 hK hs ?_
      refine t_here hs hn (p := s + l) (by omega) ((f1.2 4 (by omega)).trans h4) f5 (fun j hj => by rw [f1.1 81 (by decide)]; exact hb j hj) ?_
      refine t_isSmall hs hB ?_
      have hf : smA B n (s + l) = false := decide_eq_false (by omega)
      rw [hf, f5, f6, pk_sub (by omega), show s + l - s = l by omega]
      refine ⟨fun _ => ?_, fun z => absurd z (by decide)⟩
      have cl : ((4 : Int32) < nI l) ↔ 4 < l := nI_ltI (a := 4) (by decide) (by omega)
      rw [cl]
      have := fin l I1 (by omega) (by omega) f1 f5 f6 f8 hq f9
      refine ⟨fun z => ?_, fun z => ?_⟩
      · rw [if_pos z] at this; exact this
      · rw [if_neg z] at this; exact this
    | succ m ih =>
      intro l I1 hsl f1 f5 f6 f8 f9 hq
      simp only [spn] at hq
      refine g_X12_wordHere_5 hK hs ?_
      have hb1 : ∀ j, j < n → I1 81 j = nI (B j) := fun j hj => by rw [f1.1 81 (by decide)]; exact hb j hj
      have h41 := (f1.2 4 (by omega)).trans h4
      refine t_here hs hn (p := s + l) (by omega) h41 f5 hb1 ?_
      refine t_isSmall hs hB ?_
      rw [f5, f6, pk_sub (by omega), show s + l - s = l by omega]
      have cl : ((4 : Int32) < nI l) ↔ 4 < l := nI_ltI (a := 4) (by decide) (by omega)
      have cl2 : ((4 : Int32) ≤ nI l) ↔ 4 ≤ l := nI_leI (a := 4) (by decide) (by omega)
      rw [cl, cl2, nI_1]
      refine ⟨fun z => ?_, fun z => ?_⟩
      · rw [z, if_neg (by decide)] at hq
        have l1 : 1 ≤ l := by
          rcases Nat.eq_zero_or_pos l with h0 | h0
          · subst h0
            rw [Nat.add_zero, hsn] at z
            cases z
          · exact h0
        have := fin l I1 l1 (by omega) f1 f5 f6 f8 hq f9
        refine ⟨fun z => ?_, fun z => ?_⟩
        · rw [if_pos z] at this; exact this
        · rw [if_neg z] at this; exact this
      · have zt := smA_t z
        rw [z, if_pos rfl] at hq
        have f9' : ∀ j, j < l + 1 → 97 ≤ B (s + j) ∧ B (s + j) ≤ 122 := by
          intro j hj
          by_cases hjl : j = l
          · subst hjl; exact zt.2
          · exact f9 j (by omega)
        refine ⟨fun y => ?_, fun y => ?_⟩
        · refine ih (l + 1) _ (by omega) (frT_u (by decide) (by decide) f1) (by rw [up_s, Nat.add_assoc]) (by simp [up_ap, f6]) ?_ f9' (by rw [← Nat.add_assoc]; exact hq)
          rw [up_nk (by decide), f8, Nat.min_eq_right y, Nat.min_eq_right (by omega)]
        · refine t_here hs hn (p := s + l) (by omega) h41 f5 hb1 ?_
          refine ih (l + 1) _ (by omega) (frT_u (by decide) (by decide) (frT_u (by decide) (by decide) f1)) (by rw [up_s, Nat.add_assoc]) (by simp [up_ap, f6]) ?_ f9' (by rw [← Nat.add_assoc]; exact hq)
          have hlt := wv_lt l f9
          have hp4 : 27 ^ l ≤ 27 ^ 4 := Nat.pow_le_pow_right (by decide) (by omega)
          rw [up_nk (by decide), up_s, f8, Nat.min_eq_left (by omega), Nat.min_eq_left (by omega)]
          simp only [hvI, if_pos zt.1]
          rw [show (27 : Int32) * nI (wvF B s l) = nI (27 * wvF B s l) from pk_mul 27 _, nI_add, show (97 : Int32) = nI 97 from rfl, pk_sub (by omega), nI_1]
          simp only [wvF]
          congr 1
          omega
  refine g_X12_wordHere_0 hK hs ?_
  exact loop (n - s) 0 _ (by omega) (frT_u (by decide) (by decide) frT_rf) (by simp [up_ap, h5]) (by simp [up_ap, h6]) (by simp [up_ap, wvF]; rfl) (fun j hj => absurd hj (by omega)) h
theorem t_token {Q : Unit → HI → Prop} (hs : Stat R) (hn : n ≤ 900) (hp : p ≤ n) (h4 : I 80 4 = nI n) (h5 : I 80 5 = nI p) (hb : ∀ j, j < n → I 81 j = nI (B j)) (hB : ∀ j, B j < 256) (h : ∀ I', frT I I' → mtR I' (tkF B n p) → Q () I') : Wc fv (d + 3) M_X12_token [.ref 80] I J R Q := by
  refine ⟨Nat.le_of_ble_eq_true rfl, fun K hK => ?_⟩
  have numb : ∀ (m s l : Nat) (r : Nat) (I1 : HI), s + l + m = n → frT I I1 → I1 80 5 = nI (s + l) → I1 80 6 = nI s → I1 80 7 = 1 → I1 80 8 = nI r → r < 1000000 → ((r ≤ 9999 ∧ nvF B s l = r) ∨ (10000 ≤ r ∧ nvF B s l = 10000)) → (∀ I', frT I I' → mtR I' (tkT 2 (nvF B s (spn (dgA B n) m (s + l) - s)) s (spn (dgA B n) m (s + l))) → Q () I') → K 88 [(0, .ref 80)] [] I1 J R := by
    intro m
    induction m with
    | zero =>
      intro s l r I1 hsl f1 f5 f6 f7 f8 hr hv hq
      simp only [spn] at hq
      refine g_X12_token_88 hK hs ?_
      refine t_here hs hn (p := s + l) (by omega) ((f1.2 4 (by omega)).trans h4) f5 (fun j hj => by rw [f1.1 81 (by decide)]; exact hb j hj) ?_
      refine t_isDigit hs hB ?_
      rw [show dgA B n (s + l) = false from decide_eq_false (by omega)]
      refine ⟨fun _ => hq I1 f1 ⟨f5, f6, Or.inr (Or.inr (Or.inl ⟨rfl, f7, r, f8, by omega, ?_⟩))⟩, fun z => absurd z (by decide)⟩
      show (_ ∧ nvF B s (s + l - s) = r) ∨ (_ ∧ nvF B s (s + l - s) = 10000)
      rw [show s + l - s = l by omega]
      exact hv
    | succ m ih =>
      intro s l r I1 hsl f1 f5 f6 f7 f8 hr hv hq
      simp only [spn] at hq
      refine g_X12_token_88 hK hs ?_
      have hb1 : ∀ j, j < n → I1 81 j = nI (B j) := fun j hj => by rw [f1.1 81 (by decide)]; exact hb j hj
      have h41 := (f1.2 4 (by omega)).trans h4
      refine t_here hs hn (p := s + l) (by omega) h41 f5 hb1 ?_
      refine t_isDigit hs hB ⟨fun z => ?_, fun z => ?_⟩
      · rw [z, if_neg (by decide)] at hq
        refine hq I1 f1 ⟨f5, f6, Or.inr (Or.inr (Or.inl ⟨rfl, f7, r, f8, by omega, ?_⟩))⟩
        show (_ ∧ nvF B s (s + l - s) = r) ∨ (_ ∧ nvF B s (s + l - s) = 10000)
        rw [show s + l - s = l by omega]
        exact hv
      · rw [z, if_pos rfl] at hq
        have zt : s + l < n ∧ 48 ≤ B (s + l) ∧ B (s + l) ≤ 57 := of_decide_eq_true z
        rw [f8, f5, nI_1]
        have cl : (nI r ≤ (9999 : Int32)) ↔ r ≤ 9999 := nI_leI (b := 9999) (by omega) (by decide)
        rw [cl]
        refine ⟨fun y => ?_, fun y => ?_⟩
        · refine t_here hs hn (p := s + l) (by omega) h41 f5 hb1 ?_
          refine ih s (l + 1) (10 * r + (B (s + l) - 48)) _ (by omega) (frT_u (by decide) (by decide) (frT_u (by decide) (by decide) f1)) (by rw [up_s, Nat.add_assoc]) (by simp [up_ap, f6]) (by simp [up_ap, f7]) ?_ (by omega) ?_ (by rw [← Nat.add_assoc]; exact hq)
          · rw [up_nk (by decide), up_s]
            simp only [hvI, if_pos zt.1]
            rw [show (10 : Int32) * nI r = nI (10 * r) from pk_mul 10 _, nI_add, show (48 : Int32) = nI 48 from rfl, pk_sub (by omega)]
            congr 1
            omega
          · simp only [nvF]
            have : nvF B s l = r := by omega
            rw [this]
            split <;> omega
        · refine ih s (l + 1) r _ (by omega) (frT_u (by decide) (by decide) (frT_u (by decide) (by decide) f1)) (by rw [up_s, Nat.add_assoc]) (by simp [up_ap, f6]) (by simp [up_ap, f7]) (by simp [up_ap]) hr ?_ (by rw [← Nat.add_assoc]; exact hq)
          simp only [nvF]
          have : nvF B s l = 10000 := by omega
          rw [this, if_pos (by omega)]
          omega
  have skip : ∀ (m q : Nat) (I1 : HI), q + m = n → frT I I1 → I1 80 5 = nI q → (∀ I', frT I I' → mtR I' (tkA B n (spn (blA B n) m q)) → Q () I') → K 0 [(0, .ref 80)] [] I1 J R := by
    intro m
    induction m with
    | zero =>
      intro q I1 hqm f1 f5 hq
      simp only [spn] at hq
      rw [show tkA B n q = tkT 0 0 q q from if_neg (by omega)] at hq
      have hb1 : ∀ j, j < n → I1 81 j = nI (B j) := fun j hj => by rw [f1.1 81 (by decide)]; exact hb j hj
      have h41 := (f1.2 4 (by omega)).trans h4
      refine g_X12_token_0 hK hs ?_
      refine t_here hs hn (by omega) h41 f5 hb1 ?_
      have c10 : (hvI B n q = (10 : Int32)) ↔ (q < n ∧ B q = 10) := hv_eq (k := 10) (hB _) (by decide)
      have c32 : (hvI B n q = (32 : Int32)) ↔ (q < n ∧ B q = 32) := hv_eq (k := 32) (hB _) (by decide)
      rw [c10]
      refine ⟨fun z => by omega, fun _ => ?_⟩
      refine t_here hs hn (by omega) h41 f5 hb1 ?_
      rw [c32]
      refine ⟨fun _ => ?_, fun z => by omega⟩
      refine t_here hs hn (p := q) (by omega) (by rw [up_nk (by decide)]; exact h41) (by rw [up_nk (by decide)]; exact f5) (fun j hj => by rw [up_na (by decide)]; exact hb1 j hj) ?_
      rw [hv_m1 (hB _)]
      refine ⟨fun z => by omega, fun _ => ?_⟩
      exact hq _ (frT_u (by decide) (by decide) (frT_u (by decide) (by decide) f1)) ⟨by simp [up_ap, f5, tkT], by simp [up_ap, f5, tkT], Or.inl ⟨rfl, by simp [up_ap]⟩⟩
    | succ m ih =>
      intro q I1 hqm f1 f5 hq
      simp only [spn] at hq
      have hb1 : ∀ j, j < n → I1 81 j = nI (B j) := fun j hj => by rw [f1.1 81 (by decide)]; exact hb j hj
      have h41 := (f1.2 4 (by omega)).trans h4
      refine g_X12_token_0 hK hs ?_
      refine t_here hs hn (by omega) h41 f5 hb1 ?_
      have c10 : (hvI B n q = (10 : Int32)) ↔ (q < n ∧ B q = 10) := hv_eq (k := 10) (hB _) (by decide)
      have c32 : (hvI B n q = (32 : Int32)) ↔ (q < n ∧ B q = 32) := hv_eq (k := 32) (hB _) (by decide)
      rw [c10]
      have go : blA B n q = true → K 0 [(0, .ref 80)] [] (up I1 80 5 (I1 80 5 + 1)) J R := by
        intro hz
        rw [hz, if_pos rfl] at hq
        exact ih (q + 1) _ (by omega) (frT_u (by decide) (by decide) f1) (by rw [up_s, f5, nI_1]) hq
      refine ⟨fun z => go (decide_eq_true (by omega)), fun z1 => ?_⟩
      refine t_here hs hn (by omega) h41 f5 hb1 ?_
      rw [c32]
      refine ⟨fun z2 => ?_, fun z => go (decide_eq_true (by omega))⟩
      rw [show blA B n q = false from decide_eq_false (by omega), if_neg (by decide)] at hq
      have f1' : frT I (up I1 80 6 (I1 80 5)) := frT_u (by decide) (by decide) f1
      have h42 : (up I1 80 6 (I1 80 5)) 80 4 = nI n := by rw [up_nk (by decide)]; exact h41
      have f52 : (up I1 80 6 (I1 80 5)) 80 5 = nI q := by rw [up_nk (by decide)]; exact f5
      have hb2 : ∀ j, j < n → (up I1 80 6 (I1 80 5)) 81 j = nI (B j) := fun j hj => by rw [up_na (by decide)]; exact hb1 j hj
      refine t_here hs hn (p := q) (by omega) h42 f52 hb2 ?_
      rw [hv_m1 (hB _)]
      refine ⟨fun _ => ?_, fun z => by omega⟩
      simp only [tkA] at hq
      rw [if_pos (by omega)] at hq
      refine t_isSmall hs hB ⟨fun y => ?_, fun y => ?_⟩
      · rw [y, if_neg (by decide)] at hq
        refine t_isDigit hs hB ⟨fun y2 => ?_, fun y2 => ?_⟩
        · rw [y2, if_neg (by decide)] at hq
          simp only [hvI, if_pos (show q < n by omega)]
          refine t_isMark hs (hB _) ⟨fun y3 => ?_, fun y3 => ?_⟩
          · rw [y3, if_neg (by decide)] at hq
            exact hq _ (frT_u (by decide) (by decide) (frT_u (by decide) (by decide) (frT_u (by decide) (by decide) f1'))) ⟨by simp [up_ap, f5, tkT, nI_1], by simp [up_ap, f5, tkT], Or.inr (Or.inr (Or.inr (Or.inr (Or.inl ⟨rfl, by simp [up_ap]⟩))))⟩
          · rw [y3, if_pos rfl] at hq
            exact hq _ (frT_u (by decide) (by decide) (frT_u (by decide) (by decide) (frT_u (by decide) (by decide) f1'))) ⟨by simp [up_ap, f5, tkT, nI_1], by simp [up_ap, f5, tkT], Or.inr (Or.inr (Or.inr (Or.inl ⟨rfl, by simp [up_ap], by simp [up_ap, tkT]⟩)))⟩
        · rw [y2, if_pos rfl] at hq
          exact numb (n - q) q 0 0 _ (by omega) (frT_u (by decide) (by decide) (frT_u (by decide) (by decide) f1')) (by simp [up_ap, f5]) (by simp [up_ap, f5]) (by simp [up_ap]) (by simp [up_ap]; rfl) (by omega) (Or.inl ⟨by omega, rfl⟩) hq
      · rw [y, if_pos rfl] at hq
        exact t_wordHere hs hn y h42 f52 (by rw [up_s]; exact f5) hb2 hB (fun I2 e1 e2 => hq I2 ⟨fun c hc => (e1.1 c hc).trans (f1'.1 c hc), fun k hk => (e1.2 k hk).trans (f1'.2 k hk)⟩ e2)
  exact skip (n - p) p I (by omega) frT_rf h5 h
end CB
