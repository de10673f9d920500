/-! the class's Parser: what it holds; names, signs -/
def cS (I : HI) (p n : Nat) (B : Nat → Nat) (P : SP) : Prop :=
  scR I n (P 0) ∧ (∀ j, j < n → I 1 j = bI (B j))
  ∧ (I p 1 = nI (P 0 4) ∧ I p 2 = nI (P 0 5) ∧ I p 3 = nI (P 0 6) ∧ I p 4 = nI (P 0 7) ∧ I p 5 = nI (P 0 8) ∧ I p 6 = nI (P 0 9))
  ∧ (I 2 6 = nI (P 0 10) ∧ I 2 7 = nI (P 0 11) ∧ I 2 8 = 0 ∧ I 2 9 = -1)
  ∧ (∀ i, i < P 0 4 → I (p + 1) i = nI (pk (P 1 i) (P 2 i) (P 3 i)))
  ∧ (∀ r, r < P 0 8 → I (p + 2) r = nI (P 6 r) ∧ I (p + 3) r = nI (P 7 r) ∧ I 4 r = nI (cv (P 5 r)))
  ∧ (∀ v, v < P 0 7 → I 3 v = nI (cv (P 4 v)))
  ∧ (∀ b, b < P 0 10 → I 5 b = nI (P 8 b) ∧ I 6 b = nI (P 9 b))
def frP (p : Nat) (I I' : HI) : Prop := ∀ a, (a < 2 ∨ 7 < a) → (a < p ∨ p + 3 < a) → I' a = I a
theorem frP_rf {p : Nat} {I : HI} : frP p I I := fun _ _ _ => rfl
theorem frP_tr {p : Nat} {I I1 I2 : HI} (h : frP p I I1) (h' : frP p I1 I2) : frP p I I2 := fun a a1 a2 => (h' a a1 a2).trans (h a a1 a2)
theorem frP_7 {p : Nat} {I I1 : HI} (h : ∀ c, ¬ c = 7 → I1 c = I c) : frP p I I1 := fun a a1 _ => h a (by omega)
theorem frP_u {p c k : Nat} {I I1 : HI} {x : Int32} (hc : (2 ≤ c ∧ c ≤ 7) ∨ (p ≤ c ∧ c ≤ p + 3)) (h : frP p I I1) : frP p I (up I1 c k x) := fun a a1 a2 => (up_ne _ _ _ _ (by omega)).trans (h a a1 a2)
def rC (Q : Bool → HI → Prop) (I : HI) (p n : Nat) (B : Nat → Nat) (r : RS) : Prop := match r with
  | .ok P' => ∀ I', cS I' p n B P' → frP p I I' → Q true I'
  | .error e => ∀ I', I' 2 8 = nI e.1 → I' 2 9 = nI e.2 → frP p I I' → Q false I'
theorem rC_mono {Q : Bool → HI → Prop} {I I1 : HI} {p n : Nat} {B : Nat → Nat} {r : RS} (hf : frP p I I1) (h : rC Q I p n B r) : rC Q I1 p n B r := by
  cases r with
  | ok P => exact fun I' a b => h I' a (frP_tr hf b)
  | error e => exact fun I' a b c => h I' a b (frP_tr hf c)
theorem rC_bd {Q Q' : Bool → HI → Prop} {I : HI} {p n : Nat} {B : Nat → Nat} {r : RS} {f : SP → RS} (h : rC Q I p n B (bd r f)) (h1 : ∀ P1 I1, r = .ok P1 → cS I1 p n B P1 → frP p I I1 → rC Q I1 p n B (f P1) → Q' true I1) (h2 : ∀ I1, Q false I1 → Q' false I1) : rC Q' I p n B r := by
  cases r with
  | ok P => exact fun I' a b => h1 P I' rfl a b (rC_mono b h)
  | error e => exact fun I' a b c => h2 I' (h I' a b c)
theorem scR_cg {I : HI} {n : Nat} {t t' : Nat → Nat} (h : ∀ j, j < 4 → t' j = t j) (hs : scR I n t) : scR I n t' := by
  simp only [scR, h 0 (by omega), h 1 (by omega), h 2 (by omega), h 3 (by omega)]
  exact hs
theorem scR_I {I I' : HI} {n : Nat} {t : Nat → Nat} (h : I' 7 = I 7) (hs : scR I n t) : scR I' n t := by
  simp only [scR, ctok, h]
  exact hs
theorem cv_lt : ∀ (k w : Nat), w < 27 ^ k → cv w < 32 ^ k
  | 0, w, h => by
    have : w = 0 := by simp at h; omega
    rw [this, cv_0]
    decide
  | k + 1, w, h => by
    by_cases hw : w = 0
    · rw [hw, cv_0]
      exact Nat.pow_pos (by decide)
    · have := cv_lt k (w / 27) (by rw [Nat.pow_succ] at h; omega)
      rw [cv, dif_neg hw, Nat.pow_succ]
      omega
theorem cv_eq {a b : Nat} (ha : a < 531441) (hb : b < 531441) : (nI (cv a) = nI (cv b)) ↔ a = b := by
  have h1 := cv_lt 4 a (by omega)
  have h2 := cv_lt 4 b (by omega)
  rw [nI_eq (by omega) (by omega)]
  exact ⟨fun h => cv_inj a b h, fun h => by rw [h]⟩
def oI (o : Option Nat) : Int32 := match o with
  | some i => nI i
  | none => -1
theorem nI_m1 {k : Nat} (h : k < 2 ^ 31) : ¬ nI k = -1 := by
  intro q
  have := congrArg Int32.toInt q
  rw [nI_toInt h, show (-1 : Int32).toInt = -1 from rfl] at this
  omega
section CC
variable {d : Nat} {I : HI} {J : HJ} {R : HR} {B : Nat → Nat} {n p : Nat} {P : SP}
theorem t_adv {Q : Unit → HI → Prop} (hs : Stat R) (hp : isX5 p) (hn : n ≤ 900) (hB : ∀ j, B j < 256) (hk : okB n P) (hS : cS I p n B P) (h : ∀ I', cS I' p n B (adv B n P) → (∀ c, ¬ c = 7 → I' c = I c) → Q () I') : Wc fv (d + 1) M_X6_advance [.ref 7] I J R Q := by
  obtain ⟨s1, s2, s3, s4, s5, s6, s7, s8⟩ := hS
  refine t_advance (p := P 0 3) hs hn hk.1.2.1 s1.1 s1.2.1 s2 hB (fun I' f1 f2 => h I' ⟨scR_cg (fun j hj => adv_t hj) f2, ?_, ?_, ?_, ?_, ?_, ?_, ?_⟩ f1)
  · rw [f1 1 (by decide)]; exact s2
  · rw [f1 p (by rcases hp with rfl | rfl <;> decide), adv_f (by decide), adv_f (by decide), adv_f (by decide), adv_f (by decide), adv_f (by decide), adv_f (by decide)]; exact s3
  · rw [f1 2 (by decide), adv_f (by decide), adv_f (by decide)]; exact s4
  · rw [f1 (p + 1) (by rcases hp with rfl | rfl <;> decide), adv_f (by decide), adv_c (by decide), adv_c (by decide), adv_c (by decide)]; exact s5
  · rw [f1 (p + 2) (by rcases hp with rfl | rfl <;> decide), f1 (p + 3) (by rcases hp with rfl | rfl <;> decide), f1 4 (by decide), adv_f (by decide), adv_c (by decide), adv_c (by decide), adv_c (by decide)]; exact s6
  · rw [f1 3 (by decide), adv_f (by decide), adv_c (by decide)]; exact s7
  · rw [f1 5 (by decide), f1 6 (by decide), adv_f (by decide), adv_c (by decide), adv_c (by decide)]; exact s8
theorem t_fl {k : Nat} {Q : Bool → HI → Prop} (hs : Stat R) (hS : cS I p n B P) (h : rC Q I p n B (flt k P)) : Wc fb (d + 1) M_X4_fail [.ref 2, .int (nI k)] I J R Q := by
  refine e_X4_fail hs ?_
  refine h _ ?_ ?_ (frP_u (Or.inl (by decide)) (frP_u (Or.inl (by decide)) frP_rf))
  · rw [up_nk (by decide), up_s]
  · rw [up_s]
    exact hS.1.2.2.1
theorem own_cv {w : Nat} (hw : w < 531441) : (nI (cv w) = (294 : Int32) ↔ w = 249) ∧ (nI (cv w) = (302 : Int32) ↔ w = 257) ∧ (nI (cv w) = (5572 : Int32) ↔ w = 4027) ∧ (nI (cv w) = (16052 : Int32) ↔ w = 11522) ∧ (nI (cv w) = (18935 : Int32) ↔ w = 13550) ∧ (nI (cv w) = (176741 : Int32) ↔ w = 107681) ∧ (nI (cv w) = (409072 : Int32) ↔ w = 247552) := by
  have e : ∀ (x : Nat) (y : Nat), x < 531441 → cv x = y → ((nI (cv w) = nI y) ↔ w = x) := fun x y hx hy => by rw [← hy]; exact cv_eq hw hx
  have c0 : cv 0 = 0 := cv_0
  have s : ∀ (x : Nat), x ≠ 0 → cv x = 32 * cv (x / 27) + x % 27 := fun x hx => by rw [cv, dif_neg hx]
  refine ⟨e 249 294 (by decide) ?_, e 257 302 (by decide) ?_, e 4027 5572 (by decide) ?_, e 11522 16052 (by decide) ?_, e 13550 18935 (by decide) ?_, e 107681 176741 (by decide) ?_, e 247552 409072 (by decide) ?_⟩ <;> simp [s, c0]
theorem t_isName {Q : Bool → Prop} (hs : Stat R) (hk : okB n P) (hS : cS I p n B P) (h : Q (isNm P)) : Wp fb (d + 1) M_X6_isName [.ref 7] I J R Q := by
  refine e_X6_isName hs ?_
  obtain ⟨_, _, _, hc⟩ := hS.1
  simp only [isNm] at h
  rcases hc with ⟨k, a⟩ | ⟨k, a, b, c⟩ | ⟨k, a, b⟩ | ⟨k, a, b⟩ | ⟨k, a, b⟩ | ⟨k, a, b, c⟩ | ⟨k, a, b, c⟩
  · rw [k] at h
    refine ⟨fun _ => h, fun z => ?_⟩
    rw [a] at z; exact absurd z (by decide)
  · have hw := hk.1.2.2.2.2.1 k
    obtain ⟨o1, o2, o3, o4, o5, o6, o7⟩ := own_cv hw
    rw [k, decide_eq_true rfl, Bool.true_and] at h
    refine ⟨fun z => absurd a z, fun _ => ⟨fun _ => ?_, fun z => absurd c z⟩⟩
    rw [b, o1, o2, o3, o4, o5, o6, o7]
    have yes : ownW (P 0 1) = true → Q false := fun z => by rw [z] at h; exact h
    refine ⟨fun z => yes (decide_eq_true (by omega)), fun z1 => ⟨fun z => yes (decide_eq_true (by omega)), fun z2 => ⟨fun z => yes (decide_eq_true (by omega)), fun z3 => ⟨fun z => yes (decide_eq_true (by omega)), fun z4 => ⟨fun z => yes (decide_eq_true (by omega)), fun z5 => ⟨fun z => yes (decide_eq_true (by omega)), fun z6 => ⟨fun z => yes (decide_eq_true (by omega)), fun z7 => ?_⟩⟩⟩⟩⟩⟩⟩
    rw [show ownW (P 0 1) = false from decide_eq_false (by omega)] at h
    exact h
  · rw [k] at h
    refine ⟨fun _ => h, fun z => ?_⟩
    rw [a] at z; exact absurd z (by decide)
  · rw [k] at h
    refine ⟨fun _ => h, fun z => ?_⟩
    rw [a] at z; exact absurd z (by decide)
  · rw [k] at h
    refine ⟨fun _ => h, fun z => ?_⟩
    rw [a] at z; exact absurd z (by decide)
  · rw [k] at h
    exact ⟨fun _ => h, fun _ => ⟨fun z => absurd z b, fun _ => h⟩⟩
  · rw [k] at h
    exact ⟨fun _ => h, fun _ => ⟨fun z => absurd z b, fun _ => h⟩⟩
theorem t_isSign {c : Nat} {Q : Bool → Prop} (hs : Stat R) (hm : mkB c = true) (hk : okB n P) (hS : cS I p n B P) (h : Q (isS c P)) : Wp fb (d + 1) M_X6_isSign [.ref 7, .int (nI c)] I J R Q := by
  refine e_X6_isSign hs ?_
  have hm2 := mk_lt hm
  obtain ⟨_, _, _, hc⟩ := hS.1
  simp only [isS] at h
  rcases hc with ⟨k, a⟩ | ⟨k, a, b, c⟩ | ⟨k, a, b⟩ | ⟨k, a, b⟩ | ⟨k, a, b⟩ | ⟨k, a, b, c⟩ | ⟨k, a, b, c⟩
  · rw [decide_eq_false (by omega)] at h
    refine ⟨fun _ => h, fun z => ?_⟩
    rw [a] at z; exact absurd z (by decide)
  · rw [decide_eq_false (by omega)] at h
    refine ⟨fun _ => h, fun z => ?_⟩
    rw [a] at z; exact absurd z (by decide)
  · rw [decide_eq_false (by omega)] at h
    refine ⟨fun _ => h, fun z => ?_⟩
    rw [a] at z; exact absurd z (by decide)
  · have hv := hk.1.2.2.2.2.2.1 k
    refine ⟨fun z => absurd a z, fun _ => ?_⟩
    rw [b, nI_eq (by omega) (by omega)]
    refine ⟨fun z => ?_, fun z => ?_⟩
    · rw [decide_eq_false (by omega)] at h; exact h
    · rw [decide_eq_true ⟨k, z⟩] at h; exact h
  · rw [decide_eq_false (by omega)] at h
    exact ⟨fun _ => h, fun _ => ⟨fun _ => h, fun z => absurd z (b _ hm)⟩⟩
  · rw [decide_eq_false (by omega)] at h
    refine ⟨fun _ => h, fun z => ?_⟩
    rw [a] at z; exact absurd z (by decide)
  · rw [decide_eq_false (by omega)] at h
    refine ⟨fun _ => h, fun z => ?_⟩
    rw [a] at z; exact absurd z (by decide)
/-- which operator the TOKEN is -/
def opN (P : SP) : Nat := if P 0 0 = 3 then (if P 0 1 = 42 then 5 else if P 0 1 = 43 then 3 else if P 0 1 = 45 then 4 else if P 0 1 = 47 then 6 else 0) else 0
def pI (s : Nat) : Int32 := if s = 0 then -1 else nI s
theorem t_operator {Q : Int32 → Prop} (hs : Stat R) (hk : okB n P) (hS : cS I p n B P) (h : Q (pI (opN P))) : Wp fi (d + 1) M_X6_operator [.ref 7] I J R Q := by
  refine e_X6_operator hs ?_
  obtain ⟨_, _, _, hc⟩ := hS.1
  simp only [opN] at h
  rcases hc with ⟨k, a⟩ | ⟨k, a, b, c⟩ | ⟨k, a, b⟩ | ⟨k, a, b⟩ | ⟨k, a, b⟩ | ⟨k, a, b, c⟩ | ⟨k, a, b, c⟩
  · rw [if_neg (by omega)] at h
    refine ⟨fun z => ?_, fun _ => h⟩
    rw [a] at z; exact absurd z (by decide)
  · rw [if_neg (by omega)] at h
    refine ⟨fun z => ?_, fun _ => h⟩
    rw [a] at z; exact absurd z (by decide)
  · rw [if_neg (by omega)] at h
    refine ⟨fun z => ?_, fun _ => h⟩
    rw [a] at z; exact absurd z (by decide)
  · have hv := hk.1.2.2.2.2.2.1 k
    rw [if_pos k] at h
    refine ⟨fun _ => ?_, fun z => absurd a z⟩
    rw [b]
    have e : ∀ c : Nat, c < 128 → ((nI (P 0 1) = nI c) ↔ P 0 1 = c) := fun c hc => nI_eq (by omega) (by omega)
    have e1 : (nI (P 0 1) = (42 : Int32)) ↔ P 0 1 = 42 := e 42 (by decide)
    have e2 : (nI (P 0 1) = (43 : Int32)) ↔ P 0 1 = 43 := e 43 (by decide)
    have e3 : (nI (P 0 1) = (44 : Int32)) ↔ P 0 1 = 44 := e 44 (by decide)
    have e4 : (nI (P 0 1) = (45 : Int32)) ↔ P 0 1 = 45 := e 45 (by decide)
    have e5 : (nI (P 0 1) = (46 : Int32)) ↔ P 0 1 = 46 := e 46 (by decide)
    have e6 : (nI (P 0 1) = (47 : Int32)) ↔ P 0 1 = 47 := e 47 (by decide)
    rw [e1, e2, e3, e4, e5, e6]
    refine ⟨fun z => ?_, fun z1 => ⟨fun z => ?_, fun z2 => ⟨fun z => ?_, fun z3 => ⟨fun z => ?_, fun z4 => ⟨fun z => ?_, fun z5 => ⟨fun z => ?_, fun z6 => ?_⟩⟩⟩⟩⟩⟩
    · rw [if_pos z] at h; exact h
    · rw [if_neg z1, if_pos z] at h; exact h
    · rw [if_neg z1, if_neg z2, if_neg (by omega), if_neg (by omega)] at h; exact h
    · rw [if_neg z1, if_neg z2, if_pos z] at h; exact h
    · rw [if_neg z1, if_neg z2, if_neg z4, if_neg (by omega)] at h; exact h
    · rw [if_neg z1, if_neg z2, if_neg z4, if_pos z] at h; exact h
    · rw [if_neg z1, if_neg z2, if_neg z4, if_neg z6] at h; exact h
  · rw [if_neg (by omega)] at h
    refine ⟨fun _ => ?_, fun _ => h⟩
    have e : ∀ c : Nat, mkB c = true → ¬ I 7 4 = nI c := b
    have e1 : ¬ I 7 4 = (42 : Int32) := e 42 (by decide)
    have e2 : ¬ I 7 4 = (43 : Int32) := e 43 (by decide)
    have e4 : ¬ I 7 4 = (45 : Int32) := e 45 (by decide)
    have e6 : ¬ I 7 4 = (47 : Int32) := e 47 (by decide)
    exact ⟨fun z => absurd z e1, fun _ => ⟨fun z => absurd z e2, fun _ => ⟨fun _ => h, fun _ => ⟨fun z => absurd z e4, fun _ => ⟨fun _ => h, fun _ => ⟨fun z => absurd z e6, fun _ => h⟩⟩⟩⟩⟩⟩
  · rw [if_neg (by omega)] at h
    refine ⟨fun z => ?_, fun _ => h⟩
    rw [a] at z; exact absurd z (by decide)
  · rw [if_neg (by omega)] at h
    refine ⟨fun z => ?_, fun _ => h⟩
    rw [a] at z; exact absurd z (by decide)
theorem cS_w (hS : cS I p n B P) (h0 : P 0 0 = 1) : I 7 4 = nI (cv (P 0 1)) := by
  obtain ⟨_, _, _, hc⟩ := hS.1
  rcases hc with ⟨k, _⟩ | ⟨k, a, b, c⟩ | ⟨k, _⟩ | ⟨k, _⟩ | ⟨k, _⟩ | ⟨k, _⟩ | ⟨k, _⟩
  all_goals first
    | exact b
    | omega
theorem t_rowOf {Q : Int32 → Prop} (hs : Stat R) (hp : isX5 p) (hR : R 2 1 = some p) (hk : okB n P) (hS : cS I p n B P) (h0 : P 0 0 = 1) (h : Q (oI (rwO P))) : Wp fi (d + 1) M_X4_rowOf [.ref 2, .int (I 7 4)] I J R Q := by
  refine ⟨Nat.le_of_ble_eq_true rfl, fun K hK => ?_⟩
  have e4 := cS_w hS h0
  have hw := hk.1.2.2.2.2.1 h0
  have h6 := hk.2.2.1.2.2.2.1
  rw [e4]
  have loop : ∀ (m i : Nat), i + m = P 0 8 → Q (oI (fnd (P 5) (P 0 1) m i)) → K 2 [(0, .ref 2), (1, .int (nI (cv (P 0 1)))), (2, .int (nI i))] [] I J R := by
    intro m
    induction m with
    | zero =>
      intro i hi hq
      have : i = P 0 8 := by omega
      subst this
      refine g_X4_rowOf_2 hK hs ⟨p, hR, hp, ?_⟩
      rw [hS.2.2.1.2.2.2.2.1]
      exact ⟨fun _ => hq, fun z => absurd (nI_le (Nat.le_refl _) (by omega)) z⟩
    | succ m ih =>
      intro i hi hq
      refine g_X4_rowOf_2 hK hs ⟨p, hR, hp, ?_⟩
      rw [hS.2.2.1.2.2.2.2.1]
      refine ⟨fun z => absurd z (nI_ge (by omega) (by omega)), fun _ => ⟨fun z => absurd z (nI_ge (b := 6) (by omega) (by omega)), fun _ => ⟨i, rfl, by omega, ?_⟩⟩⟩
      rw [(hS.2.2.2.2.2.1 i (by omega)).2.2, cv_eq (hk.2.2.2.2 i (by omega)).1 hw, nI_1]
      simp only [fnd] at hq
      refine ⟨fun z => ?_, fun z => ?_⟩
      · rw [if_neg z] at hq
        exact ih (i + 1) (by omega) hq
      · rw [if_pos z] at hq
        exact hq
  exact g_X4_rowOf_0 hK hs (loop (P 0 8) 0 (by omega) h)
theorem t_variableOf {y : Bool} {Q : Int32 → HI → Prop} (hs : Stat R) (hp : isX5 p) (hR : R 2 1 = some p) (hk : okB n P) (hS : cS I p n B P) (h0 : P 0 0 = 1) (h1 : ∀ v, vrO P = some v → Q (nI v) I) (h2 : vrO P = none → y = false ∨ P 0 7 = 8 → Q (-1) I) (h3 : vrO P = none → y = true → P 0 7 < 8 → ∀ I', cS I' p n B (nvr P) → frP p I I' → Q (nI (P 0 7)) I') : Wc fi (d + 1) M_X4_variableOf [.ref 2, .int (I 7 4), .int (b2i y)] I J R Q := by
  refine ⟨Nat.le_of_ble_eq_true rfl, fun K hK => ?_⟩
  have e4 := cS_w hS h0
  have hw := hk.1.2.2.2.2.1 h0
  have h8 := hk.2.2.1.2.2.1
  obtain ⟨s1, s2, s3, s4, s5, s6, s7, s8⟩ := id hS
  rw [e4]
  have last : vrO P = none → K 44 [(0, .ref 2), (1, .int (nI (cv (P 0 1)))), (2, .int (b2i y)), (3, .int (nI (P 0 7)))] [] I J R := by
    intro hv
    refine g_X4_variableOf_44 hK hs ⟨fun z => h2 hv (Or.inl z), fun z => ⟨fun z1 => absurd z1 (nI_pos (by omega)), fun _ => ?_⟩⟩
    have cl : (nI (P 0 7) < (8 : Int32)) ↔ P 0 7 < 8 := nI_ltI (b := 8) (by omega) (by decide)
    rw [cl]
    refine ⟨fun z1 => ⟨P 0 7, rfl, z1, p, hR, hp, ?_⟩, fun z1 => h2 hv (Or.inr (by omega))⟩
    have hp7 : ¬ p = 7 ∧ ¬ p = 3 ∧ ¬ p = 1 ∧ ¬ p = 2 ∧ ¬ p = 4 ∧ ¬ p = 5 ∧ ¬ p = 6 := by rcases hp with rfl | rfl <;> decide
    have e : ∀ c, ¬ c = p → ¬ c = 3 → up (up I 3 (P 0 7) (nI (cv (P 0 1)))) p 4 (nI (P 0 7) + 1) c = I c := fun c a1 a2 => by rw [up_ne _ _ _ _ a1, up_ne _ _ _ _ a2]
    refine h3 hv z z1 _ ⟨scR_I (e 7 (by omega) (by decide)) (scR_cg (fun j hj => nvr_0 (by omega)) s1), ?_, ?_, ?_, ?_, ?_, fun v hv' => ?_, ?_⟩ (frP_u (Or.inr (by omega)) (frP_u (Or.inl (by decide)) frP_rf))
    · rw [e 1 (by omega) (by decide)]; exact s2
    · have ep : ∀ j, ¬ j = 4 → up (up I 3 (P 0 7) (nI (cv (P 0 1)))) p 4 (nI (P 0 7) + 1) p j = I p j := fun j hj => by rw [up_nk hj, up_na (by omega)]
      rw [nvr_0 (j := 4) (by decide), nvr_0 (j := 5) (by decide), nvr_0 (j := 6) (by decide), nvr_7, nvr_0 (j := 8) (by decide), nvr_0 (j := 9) (by decide), ep 1 (by decide), ep 2 (by decide), ep 3 (by decide), ep 5 (by decide), ep 6 (by decide), up_s, nI_1]
      exact ⟨s3.1, s3.2.1, s3.2.2.1, rfl, s3.2.2.2.2⟩
    · rw [e 2 (by omega) (by decide), nvr_0 (by decide), nvr_0 (by decide)]; exact s4
    · rw [e (p + 1) (by omega) (by rcases hp with rfl | rfl <;> decide), nvr_0 (by decide), nvr_c (c := 1) (by decide) (by decide), nvr_c (c := 2) (by decide) (by decide), nvr_c (c := 3) (by decide) (by decide)]; exact s5
    · rw [e (p + 2) (by omega) (by rcases hp with rfl | rfl <;> decide), e (p + 3) (by omega) (by rcases hp with rfl | rfl <;> decide), e 4 (by omega) (by decide), nvr_0 (by decide), nvr_c (c := 5) (by decide) (by decide), nvr_c (c := 6) (by decide) (by decide), nvr_c (c := 7) (by decide) (by decide)]; exact s6
    · rw [nvr_7] at hv'
      rw [up_na (by omega), nvr_4]
      by_cases hvv : v = P 0 7
      · rw [if_pos hvv, hvv, up_s]
      · rw [if_neg hvv, up_nk hvv]
        exact s7 v (by omega)
    · rw [e 5 (by omega) (by decide), e 6 (by omega) (by decide), nvr_0 (by decide), nvr_c (c := 8) (by decide) (by decide), nvr_c (c := 9) (by decide) (by decide)]; exact s8
  have loop : ∀ (m i : Nat), i + m = P 0 7 → fnd (P 4) (P 0 1) m i = vrO P → K 11 [(0, .ref 2), (1, .int (nI (cv (P 0 1)))), (2, .int (b2i y)), (3, .int (nI (P 0 7))), (4, .int (nI i))] [] I J R := by
    intro m
    induction m with
    | zero =>
      intro i hi hq
      have : i = P 0 7 := by omega
      subst this
      simp only [fnd] at hq
      exact g_X4_variableOf_11 hK hs ⟨fun _ => last hq.symm, fun z => absurd (nI_le (Nat.le_refl _) (by omega)) z⟩
    | succ m ih =>
      intro i hi hq
      refine g_X4_variableOf_11 hK hs ⟨fun z => absurd z (nI_ge (by omega) (by omega)), fun _ => ⟨fun z => absurd z (nI_ge (b := 8) (by omega) (by omega)), fun _ => ⟨i, rfl, by omega, ?_⟩⟩⟩
      rw [s7 i (by omega), cv_eq (hk.2.2.2.1 i (by omega)) hw, nI_1]
      simp only [fnd] at hq
      refine ⟨fun z => ?_, fun z => ?_⟩
      · rw [if_neg z] at hq
        exact ih (i + 1) (by omega) hq
      · rw [if_pos z] at hq
        exact h1 i hq.symm
  refine g_X4_variableOf_0 hK hs ⟨p, hR, hp, ?_⟩
  rw [s3.2.2.2.1]
  exact loop (P 0 7) 0 (by omega) rfl
theorem t_cem {op a m : Nat} {Q : Unit → HI → Prop} (hs : Stat R) (hp : isX5 p) (hn : n ≤ 900) (hk : okB n P) (hsl : P 0 4 + 1 ≤ P 0 3) (hS : cS I p n B P) (h1 : op < 16) (h2 : m < 64) (h3 : a < 100000) (h : ∀ I', cS I' p n B (em op a m P) → frP p I I' → Q () I') : Wc fv (d + 1) M_X5_emit [.ref p, .int (nI op), .int (nI a), .int (nI m)] I J R Q := by
  obtain ⟨s1, s2, s3, s4, s5, s6, s7, s8⟩ := hS
  have t := hk.1.2.1
  refine t_emit hs hp s3.1 (by omega) h1 h2 h3 ?_
  have hp7 : ¬ p = 7 ∧ ¬ p = 3 ∧ ¬ p = 1 ∧ ¬ p = 2 ∧ ¬ p = 4 ∧ ¬ p = 5 ∧ ¬ p = 6 ∧ ¬ p + 1 = 7 ∧ ¬ p + 1 = 3 ∧ ¬ p + 1 = 1 ∧ ¬ p + 1 = 2 ∧ ¬ p + 1 = 4 ∧ ¬ p + 1 = 5 ∧ ¬ p + 1 = 6 := by rcases hp with rfl | rfl <;> decide
  have e : ∀ c, ¬ c = p → ¬ c = p + 1 → up (up I (p + 1) (P 0 4) (nI (pk op a m))) p 1 (nI (P 0 4 + 1)) c = I c := fun c a1 a2 => by rw [up_ne _ _ _ _ a1, up_ne _ _ _ _ a2]
  refine h _ ⟨scR_I (e 7 (by omega) (by omega)) (scR_cg (fun j hj => em_0 (by omega)) s1), ?_, ?_, ?_, fun i hi => ?_, ?_, ?_, ?_⟩ (frP_u (Or.inr (by omega)) (frP_u (Or.inr (by omega)) frP_rf))
  · rw [e 1 (by omega) (by omega)]; exact s2
  · have ep : ∀ j, ¬ j = 1 → up (up I (p + 1) (P 0 4) (nI (pk op a m))) p 1 (nI (P 0 4 + 1)) p j = I p j := fun j hj => by rw [up_nk hj, up_na (by omega)]
    rw [em_4, em_0 (j := 5) (by decide), em_0 (j := 6) (by decide), em_0 (j := 7) (by decide), em_0 (j := 8) (by decide), em_0 (j := 9) (by decide), up_s, ep 2 (by decide), ep 3 (by decide), ep 4 (by decide), ep 5 (by decide), ep 6 (by decide)]
    exact ⟨rfl, s3.2⟩
  · rw [e 2 (by omega) (by omega), em_0 (by decide), em_0 (by decide)]; exact s4
  · rw [em_4] at hi
    rw [up_na (by omega), em_1, em_2, em_3]
    by_cases hii : i = P 0 4
    · rw [if_pos hii, if_pos hii, if_pos hii, hii, up_s]
    · rw [if_neg hii, if_neg hii, if_neg hii, up_nk hii]
      exact s5 i (by omega)
  · rw [e (p + 2) (by omega) (by omega), e (p + 3) (by omega) (by omega), e 4 (by omega) (by omega), em_0 (by decide), em_c (by decide), em_c (by decide), em_c (by decide)]; exact s6
  · rw [e 3 (by omega) (by omega), em_0 (by decide), em_c (by decide)]; exact s7
  · rw [e 5 (by omega) (by omega), e 6 (by omega) (by omega), em_0 (by decide), em_c (by decide), em_c (by decide)]; exact s8
end CC
