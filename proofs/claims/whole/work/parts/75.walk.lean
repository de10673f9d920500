/-! ACTIONS: the class -/
/-- one ACTION more: 0 the wish, 1 how many, 2 gone over, 3 kept, 4 most kept, 5 to 7 the one that was wished -/
def adS (S : Nat → Int32) (q : Nat × Nat × Nat) : Nat → Int32 := fun j =>
  if j = 1 then S 1 + 1
  else if j = 2 then S 2 + (nI q.2.2 - nI q.2.1)
  else if j = 3 then S 3 + (if q.1 = 1 then 1 else if q.1 = 3 then -1 else 0)
  else if j = 4 then (if S 4 < S 3 + (if q.1 = 1 then 1 else if q.1 = 3 then -1 else 0) then S 3 + (if q.1 = 1 then 1 else if q.1 = 3 then -1 else 0) else S 4)
  else if j = 5 then (if S 1 = S 0 then nI q.1 else S 5)
  else if j = 6 then (if S 1 = S 0 then nI q.2.1 else S 6)
  else if j = 7 then (if S 1 = S 0 then nI q.2.2 else S 7)
  else S j
def taL (a : Nat) : Nat → List (Nat × Nat × Nat)
  | 0 => []
  | m + 1 => if m = 0 then (2, a, a) :: taL a m else (0, a, a + m) :: (2, a + m, a + m) :: taL a m
def acL : Nat → Nat → Nat → Nat → List (Nat × Nat × Nat)
  | 0, _, _, _ => []
  | f + 1, a, b, c => if b - a ≤ 1 ∨ c = 0 then taL a (b - a) else (0, a, a + splN (b - a) c) :: (1, a + splN (b - a) c, a + splN (b - a) c) :: (acL f (a + splN (b - a) c) b (c - 1) ++ (3, a + splN (b - a) c, a + splN (b - a) c) :: acL f a (a + splN (b - a) c) c)
theorem taL_len (a : Nat) : ∀ m, (taL a m).length + 3 ≤ 4 * m ∨ m = 0
  | 0 => Or.inr rfl
  | m + 1 => by
    have := taL_len a m
    simp only [taL]
    split
    · rename_i h
      subst h
      simp [taL]
    · simp only [List.length_cons]
      omega
theorem acL_len : ∀ (f a b c : Nat), a < b → (acL f a b c).length + 3 ≤ 4 * (b - a)
  | 0, a, b, c, h => by simp only [acL, List.length_nil]; omega
  | f + 1, a, b, c, h => by
    simp only [acL]
    split
    · have := taL_len a (b - a)
      omega
    · rename_i hn
      have hs := splN_in (l := b - a) (c := c) (by omega)
      have h1 := acL_len f (a + splN (b - a) c) b (c - 1) (by omega)
      have h2 := acL_len f a (a + splN (b - a) c) c (by omega)
      simp only [List.length_cons, List.length_append]
      omega
theorem m1_lt {a : Nat} (h : a < 2 ^ 31) : nI a + (-1) < nI a := by
  rcases a with _ | a
  · decide
  · rw [pk_m1]
    exact nI_lt (by omega) h
/-- where two begin alike but for the wished one, they end alike, that too if it came -/
theorem fold_eq : ∀ (L : List (Nat × Nat × Nat)) (S S' : Nat → Int32), (∀ j, j ≤ 4 → S j = S' j) → (∀ j, j ≤ 4 → L.foldl adS S j = L.foldl adS S' j) ∧ ((∀ j, j < 8 → S j = S' j) → ∀ j, j < 8 → L.foldl adS S j = L.foldl adS S' j)
  | [], S, S', h => ⟨h, fun h => h⟩
  | q :: L, S, S', h => by
    have e0 := h 0 (by omega)
    have e1 := h 1 (by omega)
    have e2 := h 2 (by omega)
    have e3 := h 3 (by omega)
    have e4 := h 4 (by omega)
    have a4 : ∀ j, j ≤ 4 → adS S q j = adS S' q j := by
      intro j hj
      simp only [adS, e0, e1, e2, e3, e4]
      split
      · rfl
      · split
        · rfl
        · split
          · rfl
          · split
            · rfl
            · rw [if_neg (by omega), if_neg (by omega), if_neg (by omega), if_neg (by omega), if_neg (by omega), if_neg (by omega)]
              exact h j hj
    obtain ⟨h1, h2⟩ := fold_eq L (adS S q) (adS S' q) a4
    refine ⟨h1, fun h8 => h2 (fun j hj => ?_)⟩
    simp only [adS, e0, e1, e2, e3, e4, h8 5 (by omega), h8 6 (by omega), h8 7 (by omega)]
    rw [h8 j hj]
theorem fold_hit : ∀ (L : List (Nat × Nat × Nat)) (S S' : Nat → Int32) (n c : Nat), (∀ j, j ≤ 4 → S j = S' j) → S 0 = nI n → S 1 = nI c → c ≤ n → n < c + L.length → c + L.length < 2 ^ 31 → ∀ j, j < 8 → L.foldl adS S j = L.foldl adS S' j
  | [], _, _, n, c, _, _, _, h1, h2, _ => by simp only [List.length_nil] at h2; omega
  | q :: L, S, S', n, c, h, h0, hc, h1, h2, h3 => by
    have e0 := h 0 (by omega)
    have e1 := h 1 (by omega)
    have e2 := h 2 (by omega)
    have e3 := h 3 (by omega)
    have e4 := h 4 (by omega)
    simp only [List.length_cons] at h2 h3
    have a4 : ∀ j, j ≤ 4 → adS S q j = adS S' q j := (fold_eq [q] S S' h).1
    simp only [List.foldl_cons]
    by_cases hn : n = c
    · refine (fold_eq L (adS S q) (adS S' q) a4).2 (fun j hj => ?_)
      by_cases h5 : j ≤ 4
      · exact a4 j h5
      · have hq : S' 1 = S' 0 := by rw [← e1, ← e0, hc, h0, hn]
        have hq2 : S 1 = S 0 := by rw [e1, e0, hq]
        have : j = 5 ∨ j = 6 ∨ j = 7 := by omega
        rcases this with rfl | rfl | rfl <;> simp [adS, hq, hq2]
    · refine fold_hit L (adS S q) (adS S' q) n (c + 1) a4 ?_ ?_ (by omega) (by omega) (by omega)
      · simp only [adS]
        exact h0
      · rw [show adS S q 1 = S 1 + 1 from rfl, hc, nI_1]
theorem fold_n : ∀ (L : List (Nat × Nat × Nat)) (S : Nat → Int32) (c : Nat), S 1 = nI c → L.foldl adS S 1 = nI (c + L.length)
  | [], _, _, h => h
  | q :: L, S, c, h => by
    simp only [List.foldl_cons, List.length_cons]
    rw [fold_n L (adS S q) (c + 1) (by rw [show adS S q 1 = S 1 + 1 from rfl, h, nI_1])]
    congr 1
    omega
section BV
variable {d : Nat} {I : HI} {J : HJ} {R : HR} {x1 x2 x3 x4 : Int32}
theorem t_wadd {S : Nat → Int32} {k a b : Nat} {Q : Unit → HI → Prop} (hs : Stat R) (hk : k ≤ 3) (hS : ∀ j, j < 8 → I 78 j = S j) (h : ∀ I', (∀ c, ¬ c = 78 → I' c = I c) → (∀ j, j < 8 → I' 78 j = adS S (k, a, b) j) → Q () I') : Wc fv (d + 1) M_X10_add [.ref 78, .int (nI k), .int (nI a), .int (nI b)] I J R Q := by
  refine ⟨Nat.le_of_ble_eq_true rfl, fun K hK => ?_⟩
  have k1 : (nI k = (1 : Int32)) ↔ k = 1 := nI_eq (b := 1) (by omega) (by decide)
  have k3 : (nI k = (3 : Int32)) ↔ k = 3 := nI_eq (b := 3) (by omega) (by decide)
  have s0 := hS 0 (by omega)
  have s1 := hS 1 (by omega)
  have s2 := hS 2 (by omega)
  have s3 := hS 3 (by omega)
  have s4 := hS 4 (by omega)
  have s5 := hS 5 (by omega)
  have s6 := hS 6 (by omega)
  have s7 := hS 7 (by omega)
  have fr : ∀ (I1 : HI) (y1 y2 y3 y4 : Int32), (∀ c, ¬ c = 78 → I1 c = I c) → ∀ c, ¬ c = 78 → (up (up (up (up I1 78 1 y1) 78 2 y2) 78 3 y3) 78 4 y4) c = I c := by
    intro I1 y1 y2 y3 y4 f c hc
    rw [up_ne _ _ _ _ hc, up_ne _ _ _ _ hc, up_ne _ _ _ _ hc, up_ne _ _ _ _ hc, f c hc]
  have mid : ∀ (I1 : HI), (∀ c, ¬ c = 78 → I1 c = I c) → (∀ j, j < 5 → I1 78 j = S j) → I1 78 5 = (if S 1 = S 0 then nI k else S 5) → I1 78 6 = (if S 1 = S 0 then nI a else S 6) → I1 78 7 = (if S 1 = S 0 then nI b else S 7) → K 26 [(0, .ref 78), (1, .int (nI k)), (2, .int (nI a)), (3, .int (nI b))] [] I1 J R := by
    intro I1 f1 f2 f5 f6 f7
    refine g_X10_add_26 hK hs ?_
    rw [k1, k3, f2 1 (by omega), f2 2 (by omega), f2 3 (by omega), f2 4 (by omega)]
    have fin : ∀ (y : Int32), y = (if k = 1 then 1 else if k = 3 then -1 else 0) → Q () (up (up (up (up I1 78 1 (S 1 + 1)) 78 2 (S 2 + (nI b - nI a))) 78 3 (S 3 + y)) 78 4 (if S 4 < S 3 + y then S 3 + y else S 4)) := by
      intro y hy
      refine h _ (fr I1 _ _ _ _ f1) (fun j hj => ?_)
      have : j = 0 ∨ j = 1 ∨ j = 2 ∨ j = 3 ∨ j = 4 ∨ j = 5 ∨ j = 6 ∨ j = 7 := by omega
      rcases this with rfl | rfl | rfl | rfl | rfl | rfl | rfl | rfl
      · simp [up_ap, adS, f2 0]
      · simp [up_ap, adS]
      · simp [up_ap, adS]
      · simp [up_ap, adS, hy]
      · simp [up_ap, adS, hy]
      · simp [up_ap, adS, f5]
      · simp [up_ap, adS, f6]
      · simp [up_ap, adS, f7]
    refine ⟨fun z => ⟨fun y => ?_, fun y => ?_⟩, fun z => ?_⟩
    · exact fin 0 (by rw [if_neg z, if_neg y])
    · exact fin (-1) (by rw [if_neg z, if_pos y])
    · exact fin 1 (by rw [if_pos z])
  refine g_X10_add_0 hK hs ?_
  rw [s0, s1]
  refine ⟨fun z => ?_, fun z => ?_⟩
  · exact mid I (fun _ _ => rfl) (fun j hj => hS j (by omega)) (by rw [if_neg z, s5]) (by rw [if_neg z, s6]) (by rw [if_neg z, s7])
  · refine mid _ (fun c hc => by rw [up_ne _ _ _ _ hc, up_ne _ _ _ _ hc, up_ne _ _ _ _ hc]) (fun j hj => ?_) (by rw [if_pos z]; simp [up_ap]) (by rw [if_pos z]; simp [up_ap]) (by rw [if_pos z]; simp [up_ap])
    rw [up_nk (by omega), up_nk (by omega), up_nk (by omega)]
    exact hS j (by omega)
theorem t_wlay (hs : Stat R) : ∀ (c : Nat), c ≤ 20 → ∀ (f a b : Nat) (S : Nat → Int32) (I : HI) (Q : Unit → HI → Prop), a < b → b ≤ 60 → b - a ≤ f → (∀ j, j < 8 → I 78 j = S j) → (∀ I', (∀ x, ¬ x = 78 → I' x = I x) → (∀ j, j < 8 → I' 78 j = (acL f a b c).foldl adS S j) → Q () I') → Wc fv (d + c + 3) M_X10_lay [.ref 78, .int (nI a), .int (nI b), .int (nI c)] I J R Q := by
  intro c
  induction c with
  | zero =>
    intro hc f a b S I Q hab hb hf hS h
    refine ⟨Nat.le_of_ble_eq_true rfl, fun K hK => ?_⟩
    have tail : ∀ (m : Nat) (S1 : Nat → Int32) (I1 : HI), a + m ≤ 60 → (∀ x, ¬ x = 78 → I1 x = I x) → (∀ j, j < 8 → I1 78 j = S1 j) → (taL a m).foldl adS S1 = (acL f a b 0).foldl adS S → K 90 [(0, .ref 78), (1, .int (nI a)), (5, .int (nI (a + m) + (-1)))] [] I1 J R := by
      intro m
      induction m with
      | zero =>
        intro S1 I1 hm f1 f2 he
        refine g_X10_lay_90 hK hs ⟨fun _ => h I1 f1 ?_, fun z => absurd (m1_lt (by omega)) z⟩
        intro j hj
        rw [f2 j hj, ← he]
        rfl
      | succ m ih =>
        intro S1 I1 hm f1 f2 he
        rw [show a + (m + 1) = a + m + 1 by omega, pk_m1]
        refine g_X10_lay_90 hK hs ⟨fun z => absurd z (nI_nlt (by omega) (by omega)), fun _ => ?_⟩
        have cl : (nI (a + m) ≤ nI a) ↔ m = 0 := by rw [nI_leI (by omega) (by omega)]; omega
        rw [cl]
        simp only [taL] at he
        refine ⟨fun z => ?_, fun z => ?_⟩
        · rw [if_pos z] at he
          refine t_wadd (k := 2) hs (by omega) f2 (fun I2 e1 e2 => ?_)
          refine ih _ I2 (by omega) (fun x hx => (e1 x hx).trans (f1 x hx)) e2 ?_
          rw [← he]
          subst z
          rfl
        · rw [if_neg z] at he
          refine t_wadd (k := 0) hs (by omega) f2 (fun I2 e1 e2 => ?_)
          refine t_wadd (k := 2) hs (by omega) e2 (fun I3 e3 e4 => ?_)
          exact ih _ I3 (by omega) (fun x hx => (e3 x hx).trans ((e1 x hx).trans (f1 x hx))) e4 he
    refine g_X10_lay_0 hK hs ?_
    obtain ⟨f, rfl⟩ : ∃ k, f = k + 1 := ⟨f - 1, by omega⟩
    have := tail (b - a) S I (by omega) (fun _ _ => rfl) hS (by simp [acL])
    rw [show a + (b - a) = b by omega, ← Int32.sub_eq_add_neg] at this
    exact g_X10_lay_6 hK hs ⟨fun _ => this, fun _ => ⟨fun _ => this, fun z => absurd (by decide) z⟩⟩
  | succ c ihc =>
    intro hc f a b S I Q hab hb hf hS h
    refine ⟨Nat.le_of_ble_eq_true rfl, fun K hK => ?_⟩
    have tail : ∀ (m : Nat) (S1 : Nat → Int32) (I1 : HI), a + m ≤ 60 → (∀ x, ¬ x = 78 → I1 x = I x) → (∀ j, j < 8 → I1 78 j = S1 j) → (taL a m).foldl adS S1 = (acL f a b (c + 1)).foldl adS S → K 90 [(0, .ref 78), (1, .int (nI a)), (5, .int (nI (a + m) + (-1)))] [] I1 J R := by
      intro m
      induction m with
      | zero =>
        intro S1 I1 hm f1 f2 he
        refine g_X10_lay_90 hK hs ⟨fun _ => h I1 f1 ?_, fun z => absurd (m1_lt (by omega)) z⟩
        intro j hj
        rw [f2 j hj, ← he]
        rfl
      | succ m ih =>
        intro S1 I1 hm f1 f2 he
        rw [show a + (m + 1) = a + m + 1 by omega, pk_m1]
        refine g_X10_lay_90 hK hs ⟨fun z => absurd z (nI_nlt (by omega) (by omega)), fun _ => ?_⟩
        have cl : (nI (a + m) ≤ nI a) ↔ m = 0 := by rw [nI_leI (by omega) (by omega)]; omega
        rw [cl]
        simp only [taL] at he
        refine ⟨fun z => ?_, fun z => ?_⟩
        · rw [if_pos z] at he
          refine t_wadd (k := 2) hs (by omega) f2 (fun I2 e1 e2 => ?_)
          refine ih _ I2 (by omega) (fun x hx => (e1 x hx).trans (f1 x hx)) e2 ?_
          rw [← he]
          subst z
          rfl
        · rw [if_neg z] at he
          refine t_wadd (k := 0) hs (by omega) f2 (fun I2 e1 e2 => ?_)
          refine t_wadd (k := 2) hs (by omega) e2 (fun I3 e3 e4 => ?_)
          exact ih _ I3 (by omega) (fun x hx => (e3 x hx).trans ((e1 x hx).trans (f1 x hx))) e4 he
    have head : ∀ (g e t : Nat) (S1 : Nat → Int32) (I1 : HI), a < e → e ≤ 60 → e - a ≤ g → t + (e - a) ≤ 60 → (∀ x, ¬ x = 78 → I1 x = I x) → (∀ j, j < 8 → I1 78 j = S1 j) → (acL g a e (c + 1)).foldl adS S1 = (acL f a b (c + 1)).foldl adS S → K 6 [(0, .ref 78), (1, .int (nI a)), (3, .int (nI (c + 1))), (4, .int (nI e)), (5, .int (nI t))] [] I1 J R := by
      intro g
      induction g with
      | zero => intro e t S1 I1 h1 h2 h3; omega
      | succ g ih =>
        intro e t S1 I1 h1 h2 h3 h4 f1 f2 he
        refine g_X10_lay_6 hK hs ⟨fun z => absurd z (nI_ge (b := 60) (by omega) (by omega)), fun _ => ⟨fun z => absurd z (nI_nle (by omega) (by omega)), fun _ => ?_⟩⟩
        rw [pk_sub (by omega)]
        have cl : (nI (e - a) ≤ (1 : Int32)) ↔ e - a ≤ 1 := nI_leI (b := 1) (by omega) (by decide)
        rw [cl]
        simp only [acL] at he
        refine ⟨fun z => ?_, fun z => ?_⟩
        · rw [if_pos (Or.inl z)] at he
          have := tail (e - a) S1 I1 (by omega) f1 f2 he
          rw [show a + (e - a) = e by omega, ← Int32.sub_eq_add_neg] at this
          exact this
        · rw [if_neg (by omega)] at he
          have hsp := splN_in (l := e - a) (c := c + 1) (by omega)
          refine t_firstCut hs (by omega) (by omega) (by omega) ?_
          generalize splN (e - a) (c + 1) = s at he hsp
          simp only [List.foldl_cons, List.foldl_append, Nat.add_sub_cancel] at he
          rw [nI_add, nI_pred, nI_1 t]
          refine t_wadd (k := 0) hs (by omega) f2 (fun I2 e1 e2 => ?_)
          refine t_wadd (k := 1) hs (by omega) e2 (fun I3 e3 e4 => ?_)
          refine ihc (by omega) g (a + s) e _ I3 _ (by omega) (by omega) (by omega) e4 (fun I4 e5 e6 => ?_)
          refine t_wadd (k := 3) hs (by omega) e6 (fun I5 e7 e8 => ?_)
          exact ih (a + s) (t + 1) _ I5 (by omega) (by omega) (by omega) (by omega) (fun x hx => (e7 x hx).trans ((e5 x hx).trans ((e3 x hx).trans ((e1 x hx).trans (f1 x hx))))) e8 he
    exact g_X10_lay_0 hK hs (head f b 0 S I hab hb hf (by omega) (fun _ _ => rfl) hS rfl)
def stS (w : Int32) : Nat → Int32 := fun j => if j = 0 then w else if j ≤ 4 then 0 else -1
def walkS (x1 x2 w : Int32) : Nat → Int32 := (acL 60 0 (xN x1) (xN x2)).foldl adS (stS w)
def actionV (x1 x2 x3 x4 : Int32) : Int32 := if x1 < 1 then -1 else if 60 < x1 then -1 else if x2 < 0 then -1 else if 20 < x2 then -1 else if x3 < 0 then -1 else if x4 < 0 then -1 else if x4 ≤ 2 then (if x3 < walkS x1 x2 x3 1 then (if x4 = 0 then walkS x1 x2 x3 5 else if x4 = 1 then walkS x1 x2 x3 6 else walkS x1 x2 x3 7) else -2) else -1
def actionsV (x1 x2 x3 : Int32) : Int32 := if x1 < 1 then -1 else if 60 < x1 then -1 else if x2 < 0 then -1 else if 20 < x2 then -1 else if x3 < 0 then -1 else if x3 ≤ 2 then (if x3 = 0 then walkS x1 x2 (-1) 1 else if x3 = 1 then walkS x1 x2 (-1) 2 else walkS x1 x2 (-1) 4) else -1
theorem t_walk {l c : Nat} {w : Int32} {Q : Unit → HI → Prop} (hs : Stat R) (hl : 1 ≤ l) (hl2 : l ≤ 60) (hc : c ≤ 20) (h : ∀ I', frC I I' → (∀ j, j < 8 → I' 78 j = (acL 60 0 l c).foldl adS (stS w) j) → Q () I') : Wc fv (d + 23) M_X10_start [.ref 78, .int w] I J R (fun _ I9 => Wc fv (d + 23) M_X10_lay [.ref 78, .int 0, .int (nI l), .int (nI c)] I9 J R Q) := by
  refine e_X10_start hs ?_
  refine am_W_le (show d + c + 3 ≤ d + 23 by omega) ?_
  refine t_wlay hs c hc 60 0 l (stS w) _ _ (by omega) (by omega) (by omega) (fun j hj => ?_) (fun I' f1 f2 => ?_)
  · have : j = 0 ∨ j = 1 ∨ j = 2 ∨ j = 3 ∨ j = 4 ∨ j = 5 ∨ j = 6 ∨ j = 7 := by omega
    rcases this with rfl | rfl | rfl | rfl | rfl | rfl | rfl | rfl <;> simp [up_ap, stS]
  · refine h I' (frC_c (c := 78) (Or.inr (by decide)) (by decide) frC_rf (fun a ha => ?_)) f2
    rw [f1 a ha, up_ne _ _ _ _ ha, up_ne _ _ _ _ ha, up_ne _ _ _ _ ha, up_ne _ _ _ _ ha, up_ne _ _ _ _ ha, up_ne _ _ _ _ ha, up_ne _ _ _ _ ha, up_ne _ _ _ _ ha]
theorem c_action {Q : Int32 → HI → Prop} (hs : Stat R) (h : ∀ I', frC I I' → Q (actionV x1 x2 x3 x4) I') : Wc fi (d + 24) M_X11_action [.ref 0, .int x1, .int x2, .int x3, .int x4] I J R Q := by
  refine e_X11_action hs ?_
  have h0 := h I frC_rf
  simp only [actionV] at h h0
  refine ⟨fun q => ?_, fun q => ⟨fun q1 => ?_, fun q1 => ⟨fun q2 => ?_, fun q2 => ⟨fun q3 => ?_, fun q3 => ⟨fun q4 => ?_, fun q4 => ⟨fun q5 => ?_, fun q5 => ⟨fun q6 => ?_, fun q6 => ?_⟩⟩⟩⟩⟩⟩⟩
  · rw [if_pos q] at h0; exact h0
  · rw [if_neg q, if_pos q1] at h0; exact h0
  · rw [if_neg q, if_neg q1, if_pos q2] at h0; exact h0
  · rw [if_neg q, if_neg q1, if_neg q2, if_pos q3] at h0; exact h0
  · rw [if_neg q, if_neg q1, if_neg q2, if_neg q3, if_pos q4] at h0; exact h0
  · rw [if_neg q, if_neg q1, if_neg q2, if_neg q3, if_neg q4, if_pos q5] at h0; exact h0
  · rw [if_neg q, if_neg q1, if_neg q2, if_neg q3, if_neg q4, if_neg q5, if_pos q6] at h
    obtain ⟨l, e1, e2, l1, l2⟩ := x_ab (a := 1) (b := 60) (by decide) (by decide) q q1
    obtain ⟨c, e3, e4, c1, c2⟩ := x_ab (a := 0) (b := 20) (by decide) (by decide) q2 q3
    have eW : walkS x1 x2 x3 = (acL 60 0 l c).foldl adS (stS x3) := by simp only [walkS, e2, e4]
    rw [eW] at h
    rw [e1, e3]
    refine t_walk hs l1 l2 c2 (fun I' f1 f2 => ?_)
    have hq := h I' f1
    rw [f2 1 (by omega), f2 5 (by omega), f2 6 (by omega), f2 7 (by omega)]
    refine ⟨fun z => ⟨fun y => ⟨fun y2 => ?_, fun y2 => ?_⟩, fun y => ?_⟩, fun z => ?_⟩
    · rw [if_pos z, if_neg y, if_neg y2] at hq; exact hq
    · rw [if_pos z, if_neg y, if_pos y2] at hq; exact hq
    · rw [if_pos z, if_pos y] at hq; exact hq
    · rw [if_neg z] at hq; exact hq
  · rw [if_neg q, if_neg q1, if_neg q2, if_neg q3, if_neg q4, if_neg q5, if_neg q6] at h0; exact h0
theorem c_actions {Q : Int32 → HI → Prop} (hs : Stat R) (h : ∀ I', frC I I' → Q (actionsV x1 x2 x3) I') : Wc fi (d + 24) M_X11_actions [.ref 0, .int x1, .int x2, .int x3] I J R Q := by
  refine e_X11_actions hs ?_
  have h0 := h I frC_rf
  simp only [actionsV] at h h0
  refine ⟨fun q => ?_, fun q => ⟨fun q1 => ?_, fun q1 => ⟨fun q2 => ?_, fun q2 => ⟨fun q3 => ?_, fun q3 => ⟨fun q4 => ?_, fun q4 => ⟨fun q5 => ?_, fun q5 => ?_⟩⟩⟩⟩⟩⟩
  · rw [if_pos q] at h0; exact h0
  · rw [if_neg q, if_pos q1] at h0; exact h0
  · rw [if_neg q, if_neg q1, if_pos q2] at h0; exact h0
  · rw [if_neg q, if_neg q1, if_neg q2, if_pos q3] at h0; exact h0
  · rw [if_neg q, if_neg q1, if_neg q2, if_neg q3, if_pos q4] at h0; exact h0
  · rw [if_neg q, if_neg q1, if_neg q2, if_neg q3, if_neg q4, if_pos q5] at h
    obtain ⟨l, e1, e2, l1, l2⟩ := x_ab (a := 1) (b := 60) (by decide) (by decide) q q1
    obtain ⟨c, e3, e4, c1, c2⟩ := x_ab (a := 0) (b := 20) (by decide) (by decide) q2 q3
    have eW : walkS x1 x2 (-1) = (acL 60 0 l c).foldl adS (stS (-1)) := by simp only [walkS, e2, e4]
    rw [eW] at h
    rw [e1, e3]
    refine t_walk hs l1 l2 c2 (fun I' f1 f2 => ?_)
    have hq := h I' f1
    rw [f2 1 (by omega), f2 2 (by omega), f2 4 (by omega)]
    refine ⟨fun y => ⟨fun y2 => ?_, fun y2 => ?_⟩, fun y => ?_⟩
    · rw [if_neg y, if_neg y2] at hq; exact hq
    · rw [if_neg y, if_pos y2] at hq; exact hq
    · rw [if_pos y] at hq; exact hq
  · rw [if_neg q, if_neg q1, if_neg q2, if_neg q3, if_neg q4, if_neg q5] at h0; exact h0
end BV
