/-! the class's machine holds the table T -/
theorem sub1 {n : Nat} (h : 1 ≤ n) : nI n - 1 = nI (n - 1) := pk_sub (a := n) (b := 1) h
theorem sub2 {n : Nat} (h : 2 ≤ n) : nI n - 2 = nI (n - 2) := pk_sub (a := n) (b := 2) h
theorem up_ap {α : Type} {f : Nat → Nat → α} {a k b j : Nat} {v : α} : up f a k v b j = if b = a ∧ j = k then v else f b j := rfl
def rN (I : HI) (a : Nat) (f : Nat → Nat) (n : Nat) : Prop := ∀ j, j < n → I a j = nI (f j)
def rS (I : HI) (a : Nat) (f : Nat → Nat) (n : Nat) : Prop := ∀ j, j < n → I a j = sI (f j)
theorem rN_ne {I : HI} {a b k n : Nat} {x : Int32} {f : Nat → Nat} (h : ¬ a = b) : rN (up I b k x) a f n ↔ rN I a f n := by simp only [rN, up_ne I b k x h]
theorem rS_ne {I : HI} {a b k n : Nat} {x : Int32} {f : Nat → Nat} (h : ¬ a = b) : rS (up I b k x) a f n ↔ rS I a f n := by simp only [rS, up_ne I b k x h]
theorem rN_set {I : HI} {a k n v : Nat} {f : Nat → Nat} (h : rN I a f n) : rN (up I a k (nI v)) a (fun j => if j = k then v else f j) n := by
  intro j hj
  by_cases hk : j = k
  · simp [up_ap, hk]
  · simp [up_ap, hk, h j hj]
theorem rS_set {I : HI} {a k n v : Nat} {f : Nat → Nat} (h : rS I a f n) : rS (up I a k (sI v)) a (fun j => if j = k then v else f j) n := by
  intro j hj
  by_cases hk : j = k
  · simp [up_ap, hk]
  · simp [up_ap, hk, h j hj]
theorem rN_push {I : HI} {a n v : Nat} {f : Nat → Nat} (h : rN I a f n) : rN (up I a n (nI v)) a (fun j => if j = n then v else f j) (n + 1) := by
  intro j hj
  by_cases hk : j = n
  · simp [up_ap, hk]
  · simp [up_ap, hk, h j (by omega)]
theorem rS_push {I : HI} {a n v : Nat} {f : Nat → Nat} (h : rS I a f n) : rS (up I a n (sI v)) a (fun j => if j = n then v else f j) (n + 1) := by
  intro j hj
  by_cases hk : j = n
  · simp [up_ap, hk]
  · simp [up_ap, hk, h j (by omega)]
theorem rN_le {I : HI} {a n m : Nat} {f : Nat → Nat} (hm : m ≤ n) (h : rN I a f n) : rN I a f m := fun j hj => h j (by omega)
theorem rS_le {I : HI} {a n m : Nat} {f : Nat → Nat} (hm : m ≤ n) (h : rS I a f n) : rS I a f m := fun j hj => h j (by omega)
/-- Slots -/
def slR (I : HI) (b : Nat) (f g : Nat → Nat) (n : Nat) : Prop := I b 2 = nI n ∧ rN I (b + 1) f n ∧ rS I (b + 2) g n
theorem slR_ne {I : HI} {b c k n : Nat} {x : Int32} {f g : Nat → Nat} (h0 : ¬ c = b) (h1 : ¬ c = b + 1) (h2 : ¬ c = b + 2) : slR (up I c k x) b f g n ↔ slR I b f g n := by
  simp only [slR, rN_ne (show ¬ b + 1 = c by omega), rS_ne (show ¬ b + 2 = c by omega), up_ne I c k x (show ¬ b = c by omega)]
theorem slR_push {I : HI} {b n v s : Nat} {f g : Nat → Nat} (h : slR I b f g n) : slR (up (up (up I (b + 1) n (nI v)) (b + 2) n (sI s)) b 2 (nI (n + 1))) b (fun j => if j = n then v else f j) (fun j => if j = n then s else g j) (n + 1) := by
  obtain ⟨h0, h1, h2⟩ := h
  refine ⟨by simp [up_ap], ?_, ?_⟩
  · rw [rN_ne (by omega), rN_ne (by omega)]
    exact rN_push h1
  · rw [rS_ne (by omega)]
    apply rS_push
    rw [rS_ne (by omega)]
    exact h2
theorem slR_set {I : HI} {b n k v s : Nat} {f g : Nat → Nat} (h : slR I b f g n) : slR (up (up I (b + 1) k (nI v)) (b + 2) k (sI s)) b (fun j => if j = k then v else f j) (fun j => if j = k then s else g j) n := by
  obtain ⟨h0, h1, h2⟩ := h
  refine ⟨by simp [up_ap, h0], ?_, ?_⟩
  · rw [rN_ne (by omega)]
    exact rN_set h1
  · apply rS_set
    rw [rS_ne (by omega)]
    exact h2
theorem slR_drop {I : HI} {b n m : Nat} {f g : Nat → Nat} (hm : m ≤ n) (h : slR I b f g n) : slR (up I b 2 (nI m)) b f g m := by
  obtain ⟨h0, h1, h2⟩ := h
  refine ⟨by simp [up_ap], ?_, ?_⟩
  · rw [rN_ne (by omega)]
    exact rN_le hm h1
  · rw [rS_ne (by omega)]
    exact rS_le hm h2
theorem slR_clr {I : HI} {b m : Nat} : slR (clrI I b m) b (fun _ => 0) (fun _ => 5000) m := by
  refine ⟨by simp [clrI, fillI, up_ap], fun j hj => ?_, fun j hj => ?_⟩
  · simp [clrI, fillI, hj]; rfl
  · simp [clrI, fillI, hj]; rfl
theorem clrI_ne {I : HI} {b m c : Nat} (h0 : ¬ c = b) (h1 : ¬ c = b + 1) (h2 : ¬ c = b + 2) : clrI I b m c = I c := by
  funext j
  simp [clrI, fillI, up_ap, h0, h1, h2]
/-- the TAPE -/
def tpR (I : HI) (b : Nat) (T : SP) (n : Nat) : Prop := I b 0 = nI n ∧ rN I (b + 1) (T 9) n ∧ rN I (b + 2) (T 10) n ∧ rN I (b + 3) (T 11) n ∧ rN I (b + 4) (T 12) n ∧ rN I (b + 5) (T 13) n ∧ rS I (b + 6) (T 14) n ∧ rS I (b + 7) (T 15) n ∧ (∀ e, e < n → T 9 e = 6 → I (b + 8) e = nI (ivP (T 13 e))) ∧ rN I (b + 9) (T 18) n
/-- the PATH, 32 in a number -/
def pW (f : Nat → Nat) (n w : Nat) : Nat → Nat
  | 0 => 0
  | b + 1 => pW f n w b + (if 32 * w + b < n then f (32 * w + b) * 2 ^ b else 0)
def tsR (I : HI) (b : Nat) (f : Nat → Nat) (n so : Nat) : Prop := I b 1 = nI n ∧ I b 2 = nI so ∧ ∀ w, w < 32 → I (b + 1) w = nI (pW f n w 32)
/-- open LOOPS: how often each has been through -/
def lpR (I : HI) (o : Nat) (f : Nat → Nat) (L : List Nat) : Prop := I o 8 = nI L.length ∧ ∀ (j l : Nat), L[j]? = some l → I (o + 26) (L.length - 1 - j) = nI (f l)
/-- a program -/
def pR (I : HI) (p : Nat) (G : SP) : Prop := I p 1 = nI (G 3 0) ∧ I p 2 = nI (G 3 1) ∧ I p 3 = nI (G 3 2) ∧ I p 4 = nI (G 3 3) ∧ I p 5 = nI (G 3 4) ∧ I p 6 = nI (G 3 5) ∧ (∀ i, i < G 3 0 → I (p + 1) i = nI (pk (G 0 i) (G 1 i) (G 2 i))) ∧ (∀ r, r < G 3 4 → I (p + 2) r = nI (G 4 r) ∧ I (p + 3) r = nI (G 5 r))
def mR (I : HI) (o : Nat) (G : SP) (N : Nat → List Nat) (T : SP) : Prop :=
  (I o 9 = nI (T 0 0) ∧ I o 10 = nI (T 0 1) ∧ I o 11 = nI (T 0 7)) ∧ slR I (o + 1) (T 3) (T 4) (G 3 3) ∧ slR I (o + 4) (T 5) (T 6) (G 3 5) ∧ slR I (o + 7) (T 1) (T 2) (T 0 2) ∧ slR I (o + 10) (T 7) (T 8) (T 0 3) ∧ tpR I (o + 13) T (T 0 4) ∧ tsR I (o + 24) (T 16) (T 0 5) (T 0 6) ∧ lpR I o (T 17) (N (T 0 0))
theorem pk_op' {op arg more : Nat} (h1 : op < 16) (h2 : more < 64) : pk op arg more % 16 = op ∧ pk op arg more / 1024 = arg ∧ pk op arg more / 16 % 64 = more := by
  simp only [pk]
  omega
theorem wf_op {G : SP} {D : Nat → Nat} {N : Nat → List Nat} {i : Nat} (h : wfI G D N i) : G 0 i ≤ 14 := by
  rcases h with ⟨q0, -⟩ | ⟨q0, -⟩ | ⟨q0, -⟩ | ⟨q0, q1, -⟩ | ⟨q0, -⟩ | ⟨q0, -⟩ | ⟨q0, -⟩ | ⟨q0, -⟩ | ⟨q0, -⟩ | ⟨q0, -⟩ | ⟨q0, -⟩ <;> omega
/-- nothing but the machine's own cells has changed -/
def frM (o : Nat) (I I' : HI) : Prop := ∀ a, (a < o ∨ o + 26 < a) → I' a = I a
theorem frM_up {o c k : Nat} {I : HI} {x : Int32} (h1 : o ≤ c) (h2 : c ≤ o + 26) : frM o I (up I c k x) := fun a ha => up_ne I c k x (by omega)
theorem frM_tr {o : Nat} {I I1 I2 : HI} (h1 : frM o I I1) (h2 : frM o I1 I2) : frM o I I2 := fun a ha => (h2 a ha).trans (h1 a ha)
theorem frM_rf {o : Nat} {I : HI} : frM o I I := fun _ _ => rfl
theorem pR_fr {o p : Nat} {I I' : HI} {G : SP} (hp : isX5 p) (ho : isX1 o) (hf : frM o I I') (h : pR I p G) : pR I' p G := by
  have e0 : I' p = I p := hf p (by rcases hp with rfl | rfl <;> rcases ho with rfl | rfl <;> omega)
  have e1 : I' (p + 1) = I (p + 1) := hf _ (by rcases hp with rfl | rfl <;> rcases ho with rfl | rfl <;> omega)
  have e2 : I' (p + 2) = I (p + 2) := hf _ (by rcases hp with rfl | rfl <;> rcases ho with rfl | rfl <;> omega)
  have e3 : I' (p + 3) = I (p + 3) := hf _ (by rcases hp with rfl | rfl <;> rcases ho with rfl | rfl <;> omega)
  simp only [pR, e0, e1, e2, e3]
  exact h
section MA
variable {d : Nat} {I : HI} {J : HJ} {R : HR} {o p : Nat} {G T : SP} {D : Nat → Nat} {N : Nat → List Nat}
/-- all that stands while the machine runs -/
def mC (R : HR) (o p : Nat) (I : HI) (G : SP) (D : Nat → Nat) (N : Nat → List Nat) (T : SP) : Prop := Stat R ∧ isX1 o ∧ isX5 p ∧ R o 0 = some p ∧ wfG G D N ∧ invT G D N T ∧ pR I p G ∧ mR I o G N T
theorem t_pkind {i : Nat} {Q : Int32 → Prop} (hs : Stat R) (hp : isX5 p) (hw : wfG G D N) (hP : pR I p G) (hi : i < G 3 0) (h : Q (nI (G 0 i))) : Wp fi (d + 1) M_X5_kindAt [.ref p, .int (nI i)] I J R Q := by
  have h1 := hw.1 i hi
  have h2 := hw.2.2.2.2.2.2.2.2.2.2.2 i hi
  have h3 := wf_op h1
  have h4 := pk_op' (arg := G 1 i) (show G 0 i < 16 by omega) h2.2
  refine t_kindAt hs hp hP.1 hw.2.2.2.2.1 hi (hP.2.2.2.2.2.2.1 i hi) (by simp only [pk]; omega) ?_
  rw [h4.1]
  exact h
theorem t_poperand {i : Nat} {Q : Int32 → Prop} (hs : Stat R) (hp : isX5 p) (hw : wfG G D N) (hP : pR I p G) (hi : i < G 3 0) (h : Q (nI (G 1 i))) : Wp fi (d + 1) M_X5_operandAt [.ref p, .int (nI i)] I J R Q := by
  have h1 := hw.1 i hi
  have h2 := hw.2.2.2.2.2.2.2.2.2.2.2 i hi
  have h3 := wf_op h1
  have h4 := pk_op' (arg := G 1 i) (show G 0 i < 16 by omega) h2.2
  refine t_operandAt hs hp hP.1 hw.2.2.2.2.1 hi (hP.2.2.2.2.2.2.1 i hi) (by simp only [pk]; omega) ?_
  rw [h4.2.1]
  exact h
theorem t_prounds {i : Nat} {Q : Int32 → Prop} (hs : Stat R) (hp : isX5 p) (hw : wfG G D N) (hP : pR I p G) (hi : i < G 3 0) (h : Q (nI (G 2 i))) : Wp fi (d + 1) M_X5_roundsAt [.ref p, .int (nI i)] I J R Q := by
  have h1 := hw.1 i hi
  have h2 := hw.2.2.2.2.2.2.2.2.2.2.2 i hi
  have h3 := wf_op h1
  have h4 := pk_op' (arg := G 1 i) (show G 0 i < 16 by omega) h2.2
  refine t_roundsAt hs hp hP.1 hw.2.2.2.2.1 hi (hP.2.2.2.2.2.2.1 i hi) (by simp only [pk]; omega) ?_
  rw [h4.2.2]
  exact h
/-- cellAt: the ROW's CELL that the stack's place k tells -/
theorem t_cellAt {k : Nat} {Q : Int32 → Prop} (h0 : mC R o p I G D N T) (hat : T 0 0 < G 3 0) (hr : G 1 (T 0 0) < G 3 4) (hk : k < T 0 2) (h : Q (if T 1 k < G 5 (G 1 (T 0 0)) then nI (G 4 (G 1 (T 0 0)) + T 1 k) else -1)) : Wp fi (d + 2) M_X1_cellAt [.ref o, .int (nI k)] I J R Q := by
  obtain ⟨hs, ho, hp, hR, hw, hi, hP, ⟨⟨m1, m2, m3⟩, v1, v2, v3, v4, tp, ts, lp⟩⟩ := h0
  refine e_X1_cellAt hs ho ⟨p, hR, hp, ?_⟩
  obtain ⟨w1, w2, w3, w4, w5, w6, w7, w8, w9, w10, w11, w12⟩ := id hw
  have hst := (w2 (T 0 0) hi.1.1).1
  have hst2 := hi.1.2.1
  rw [m1]
  refine t_poperand hs hp hw hP hat ?_
  refine t_valueAt hs (sub_X1_7 ho) v3.1 (by omega) hk ?_
  rw [v3.2.1 k hk]
  have hb := hi.2.1 k hk
  have hr2 := w11 _ hr
  exact t_cellOf hs hp hP.2.2.2.2.1 w9 hr (by omega) (hP.2.2.2.2.2.2.2 _ hr).1 (hP.2.2.2.2.2.2.2 _ hr).2 (by omega) (by omega) h
theorem t_reason {Q : Int32 → Prop} (h0 : mC R o p I G D N T) (hat : T 0 0 < G 3 0) (h : Q (nI (stopR G T))) : Wp fi (d + 3) M_X1_reasonToStop [.ref o, .int (nI (G 0 (T 0 0)))] I J R Q := by
  obtain ⟨hs, ho, hp, hR, hw, hi, hP, ⟨⟨m1, m2, m3⟩, v1, v2, v3, v4, tp, ts, lp⟩⟩ := id h0
  obtain ⟨w1, w2, w3, w4, w5, w6, w7, w8, w9, w10, w11, w12⟩ := id hw
  obtain ⟨⟨i1, i2, i3, i4, i5, i6, i7, i8⟩, r1, r3, r5, r7, hE, hPa, hL⟩ := id hi
  have hst := (w2 (T 0 0) i1).1
  refine ⟨Nat.le_of_ble_eq_true rfl, fun K hK => ?_⟩
  have hop := wf_op (w1 _ hat)
  have c2 : (nI (G 0 (T 0 0)) = (2 : Int32)) ↔ G 0 (T 0 0) = 2 := nI_eq (by omega) (by decide)
  have c6 : (nI (G 0 (T 0 0)) = (6 : Int32)) ↔ G 0 (T 0 0) = 6 := nI_eq (by omega) (by decide)
  have c8 : (nI (G 0 (T 0 0)) = (8 : Int32)) ↔ G 0 (T 0 0) = 8 := nI_eq (by omega) (by decide)
  have c9 : (nI (G 0 (T 0 0)) = (9 : Int32)) ↔ G 0 (T 0 0) = 9 := nI_eq (by omega) (by decide)
  have d3 : (nI (G 0 (T 0 0)) < (3 : Int32)) ↔ G 0 (T 0 0) < 3 := nI_ltI (by omega) (by decide)
  have d6 : ((6 : Int32) < nI (G 0 (T 0 0))) ↔ 6 < G 0 (T 0 0) := nI_ltI (by decide) (by omega)
  have k112 : Q (nI (if G 0 (T 0 0) = 9 ∧ 20 ≤ T 0 3 then 5 else 0)) → K 112 [(0, .ref o), (1, .int (nI (G 0 (T 0 0))))] [] I J R := by
    intro hq
    refine g_X1_reasonToStop_112 hK hs ho ?_
    rw [v4.1]
    have d20 : (nI (T 0 3) < (20 : Int32)) ↔ T 0 3 < 20 := nI_ltI (by omega) (by decide)
    refine ⟨fun hc => ?_, fun hc => ⟨fun hc2 => ?_, fun hc2 => ?_⟩⟩
    · rw [if_neg (fun q => hc (c9.mpr q.1))] at hq; exact hq
    · rw [if_neg (fun q => absurd (d20.mp hc2) (by omega))] at hq; exact hq
    · rw [if_pos ⟨c9.mp hc, Nat.not_lt.mp (fun q => hc2 (d20.mpr q))⟩] at hq; exact hq
  have k61 : Q (nI (if G 0 (T 0 0) = 8 ∧ ¬ T 1 (T 0 2 - 2) < G 5 (G 1 (T 0 0)) then 2 else if 3 ≤ G 0 (T 0 0) ∧ G 0 (T 0 0) ≤ 6 ∧ 400 ≤ T 0 4 then 4 else if G 0 (T 0 0) = 9 ∧ 20 ≤ T 0 3 then 5 else 0)) → K 61 [(0, .ref o), (1, .int (nI (G 0 (T 0 0))))] [] I J R := by
    intro hq
    refine g_X1_reasonToStop_61 hK hs ho ?_
    rw [tp.1, v3.1]
    have d400 : (nI (T 0 4) < (400 : Int32)) ↔ T 0 4 < 400 := nI_ltI (by omega) (by decide)
    have tail : ¬ (G 0 (T 0 0) = 8 ∧ ¬ T 1 (T 0 2 - 2) < G 5 (G 1 (T 0 0))) → ((nI (G 0 (T 0 0)) < 3 → K 112 [(0, .ref o), (1, .int (nI (G 0 (T 0 0))))] [] I J R) ∧ (¬ nI (G 0 (T 0 0)) < 3 → ((6 < nI (G 0 (T 0 0)) → K 112 [(0, .ref o), (1, .int (nI (G 0 (T 0 0))))] [] I J R) ∧ (¬ 6 < nI (G 0 (T 0 0)) → ((nI (T 0 4) < 400 → K 112 [(0, .ref o), (1, .int (nI (G 0 (T 0 0))))] [] I J R) ∧ (¬ nI (T 0 4) < 400 → Q 4)))))) := by
      intro hn
      rw [if_neg hn] at hq
      rw [d3, d6, d400]
      refine ⟨fun h => k112 ?_, fun h => ⟨fun h2 => k112 ?_, fun h2 => ⟨fun h3 => k112 ?_, fun h3 => ?_⟩⟩⟩
      · rw [if_neg (by omega)] at hq; exact hq
      · rw [if_neg (by omega)] at hq; exact hq
      · rw [if_neg (by omega)] at hq; exact hq
      · rw [if_pos (by omega)] at hq; exact hq
    refine ⟨fun hc => tail (fun q => hc (c8.mpr q.1)), fun hc => ?_⟩
    have h8 := c8.mp hc
    have hwf := w1 _ hat
    have hr : G 1 (T 0 0) < G 3 4 ∧ D (T 0 0) = 2 := by
      rcases hwf with ⟨q0, -⟩ | ⟨q0, -⟩ | ⟨q0, -⟩ | ⟨q0, q1, -⟩ | ⟨q0, -⟩ | ⟨q0, q1, q2, q3, -⟩ | ⟨q0, -⟩ | ⟨q0, -⟩ | ⟨q0, -⟩ | ⟨q0, -⟩ | ⟨q0, -⟩
      · omega
      · omega
      · omega
      · omega
      · omega
      · exact ⟨q3, q1⟩
      · omega
      · omega
      · omega
      · omega
      · omega
    rw [sub2 (show 2 ≤ T 0 2 by omega)]
    refine t_cellAt h0 hat hr.1 (by omega) ?_
    by_cases hlt : T 1 (T 0 2 - 2) < G 5 (G 1 (T 0 0))
    · rw [if_pos hlt]
      have hb := w11 _ hr.1
      refine ⟨fun _ => tail (fun q => q.2 hlt), fun hc2 => absurd hc2 ?_⟩
      intro e
      have : nI (G 4 (G 1 (T 0 0)) + T 1 (T 0 2 - 2)) < 0 := by rw [e]; decide
      exact nI_pos (by omega) this
    · rw [if_neg hlt]
      refine ⟨fun hc2 => absurd rfl hc2, fun _ => ?_⟩
      rw [if_pos ⟨h8, hlt⟩] at hq
      exact hq
  refine g_X1_reasonToStop_0 hK hs ho ?_
  rw [m2, v3.1]
  have d3000 : (nI (T 0 1) < (3000 : Int32)) ↔ T 0 1 < 3000 := nI_ltI (by omega) (by decide)
  simp only [stopR] at h
  refine ⟨fun hc => ?_, fun hc => ?_⟩
  · rw [if_neg (by have := d3000.mp hc; omega)] at h
    have two : ¬ (G 0 (T 0 0) = 6 ∧ T 1 (T 0 2 - 1) = 0) → ((¬ nI (G 0 (T 0 0)) = 2 → K 61 [(0, .ref o), (1, .int (nI (G 0 (T 0 0))))] [] I J R) ∧ (nI (G 0 (T 0 0)) = 2 → Wp fi (d + 2) M_X1_cellAt [.ref o, .int (nI (T 0 2) - 1)] I J R (fun r4 => ((r4 = (-1) → Q 2) ∧ (¬ r4 = (-1) → K 61 [(0, .ref o), (1, .int (nI (G 0 (T 0 0))))] [] I J R))))) := by
      intro hn
      rw [if_neg hn] at h
      refine ⟨fun hc => k61 ?_, fun hc => ?_⟩
      · rw [if_neg (fun q => hc (c2.mpr q.1))] at h; exact h
      · have h2 := c2.mp hc
        have hr : G 1 (T 0 0) < G 3 4 ∧ 1 ≤ D (T 0 0) := by
          rcases w1 _ hat with ⟨q0, -⟩ | ⟨q0, -⟩ | ⟨q0, q1, q2, q3, -⟩ | ⟨q0, q1, -⟩ | ⟨q0, -⟩ | ⟨q0, -⟩ | ⟨q0, -⟩ | ⟨q0, -⟩ | ⟨q0, -⟩ | ⟨q0, -⟩ | ⟨q0, -⟩
          · omega
          · omega
          · exact ⟨q3, q1⟩
          · omega
          · omega
          · omega
          · omega
          · omega
          · omega
          · omega
          · omega
        rw [sub1 (show 1 ≤ T 0 2 by omega)]
        refine t_cellAt h0 hat hr.1 (by omega) ?_
        by_cases hlt : T 1 (T 0 2 - 1) < G 5 (G 1 (T 0 0))
        · rw [if_pos hlt]
          have hb := w11 _ hr.1
          refine ⟨fun hc2 => absurd hc2 ?_, fun _ => k61 ?_⟩
          · intro e
            have : nI (G 4 (G 1 (T 0 0)) + T 1 (T 0 2 - 1)) < 0 := by rw [e]; decide
            exact nI_pos (by omega) this
          · rw [if_neg (fun q => q.2 hlt)] at h; exact h
        · rw [if_neg hlt]
          refine ⟨fun _ => ?_, fun hc2 => absurd rfl hc2⟩
          rw [if_pos ⟨h2, hlt⟩] at h
          exact h
    refine ⟨fun hc6 => two (fun q => hc6 (c6.mpr q.1)), fun hc6 => ?_⟩
    have h6 := c6.mp hc6
    have hr : 2 ≤ D (T 0 0) := by
      rcases w1 _ hat with ⟨q0, -⟩ | ⟨q0, -⟩ | ⟨q0, -⟩ | ⟨q0, q1, q2, -⟩ | ⟨q0, -⟩ | ⟨q0, -⟩ | ⟨q0, -⟩ | ⟨q0, -⟩ | ⟨q0, -⟩ | ⟨q0, -⟩ | ⟨q0, -⟩ <;> omega
    have hb := r1 (T 0 2 - 1) (by omega)
    have hval : (nI (T 1 (T 0 2 - 1)) = (0 : Int32)) ↔ T 1 (T 0 2 - 1) = 0 := nI_eq (by omega) (by decide)
    rw [sub1 (show 1 ≤ T 0 2 by omega)]
    refine t_valueAt hs (sub_X1_7 ho) v3.1 (by omega) (by omega) ?_
    rw [v3.2.1 _ (by omega)]
    refine ⟨fun hz => ?_, fun hz => ?_⟩
    · have := two (fun q => hz (hval.mpr q.2))
      rw [sub1 (show 1 ≤ T 0 2 by omega)] at this
      exact this
    · rw [if_pos ⟨h6, hval.mp hz⟩] at h
      exact h
  · rw [if_pos (Nat.not_lt.mp (fun q => hc (d3000.mpr q)))] at h
    exact h
end MA
