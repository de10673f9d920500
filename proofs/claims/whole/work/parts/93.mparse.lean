/-! the reference's parser: what it holds; when a FAULT is there it does nothing -/
def bS (I : HI) (n : Nat) (B : Nat → Nat) (P : SP) : Prop :=
  mtR I (P 0) ∧ (I 80 4 = nI n ∧ I 80 9 = 0 ∧ ∀ j, j < n → I 81 j = nI (B j))
  ∧ (I 80 24 = nI (P 0 4) ∧ I 80 3 = nI (P 0 5) ∧ I 80 15 = nI (P 0 6) ∧ I 80 14 = nI (P 0 7) ∧ I 80 19 = nI (P 0 8) ∧ I 80 20 = nI (P 0 9) ∧ I 80 27 = nI (P 0 10) ∧ I 80 28 = nI (P 0 11))
  ∧ (∀ i, i < P 0 4 → I 86 (1000 + i) = nI (P 1 i) ∧ I 87 (1000 + i) = nI (P 2 i) ∧ I 88 (1000 + i) = nI (P 3 i))
  ∧ (∀ r, r < P 0 8 → I 84 (6 + r) = nI (P 6 r) ∧ I 85 (6 + r) = nI (P 7 r) ∧ I 83 r = nI (P 5 r))
  ∧ (∀ v, v < P 0 7 → I 82 v = nI (P 4 v))
  ∧ (∀ b, b < P 0 10 → I 89 b = nI (P 8 b) ∧ I 90 b = nI (P 9 b))
def frN (I I' : HI) : Prop := (∀ a, ¬ a = 80 → (a < 82 ∨ 90 < a) → I' a = I a) ∧ (∀ r, r < 6 → I' 84 r = I 84 r ∧ I' 85 r = I 85 r) ∧ (∀ i, i < 1000 → I' 86 i = I 86 i ∧ I' 87 i = I 87 i ∧ I' 88 i = I 88 i) ∧ (∀ k, (k < 3 ∨ 29 < k ∨ k = 11 ∨ k = 12) → I' 80 k = I 80 k)
theorem frN_rf {I : HI} : frN I I := ⟨fun _ _ _ => rfl, fun _ _ => ⟨rfl, rfl⟩, fun _ _ => ⟨rfl, rfl, rfl⟩, fun _ _ => rfl⟩
theorem frN_tr {I I1 I2 : HI} (h : frN I I1) (g : frN I1 I2) : frN I I2 := ⟨fun a a1 a2 => (g.1 a a1 a2).trans (h.1 a a1 a2), fun r hr => ⟨(g.2.1 r hr).1.trans (h.2.1 r hr).1, (g.2.1 r hr).2.trans (h.2.1 r hr).2⟩, fun i hi => ⟨(g.2.2.1 i hi).1.trans (h.2.2.1 i hi).1, (g.2.2.1 i hi).2.1.trans (h.2.2.1 i hi).2.1, (g.2.2.1 i hi).2.2.trans (h.2.2.1 i hi).2.2⟩, fun k hk => (g.2.2.2 k hk).trans (h.2.2.2 k hk)⟩
theorem frN_T {I I1 : HI} (g : frT I I1) : frN I I1 := ⟨fun a a1 _ => g.1 a a1, fun r _ => by rw [g.1 84 (by decide), g.1 85 (by decide)]; exact ⟨rfl, rfl⟩, fun i _ => by rw [g.1 86 (by decide), g.1 87 (by decide), g.1 88 (by decide)]; exact ⟨rfl, rfl, rfl⟩, fun k hk => g.2 k (by omega)⟩
theorem frN_f {I I1 : HI} {k : Nat} {x : Int32} (hk : 3 ≤ k ∧ k ≤ 29 ∧ ¬ k = 11 ∧ ¬ k = 12) (h : frN I I1) : frN I (up I1 80 k x) := ⟨fun a a1 a2 => (up_ne _ _ _ _ a1).trans (h.1 a a1 a2), fun r hr => by rw [up_na (by decide), up_na (by decide)]; exact h.2.1 r hr, fun i hi => by rw [up_na (by decide), up_na (by decide), up_na (by decide)]; exact h.2.2.1 i hi, fun j hj => (up_nk (by omega)).trans (h.2.2.2 j hj)⟩
theorem frN_c {I I1 : HI} {c k : Nat} {x : Int32} (hc : 82 ≤ c ∧ c ≤ 90) (h1 : c = 84 ∨ c = 85 → 6 ≤ k) (h2 : 86 ≤ c → c ≤ 88 → 1000 ≤ k) (h : frN I I1) : frN I (up I1 c k x) := by
  refine ⟨fun a a1 a2 => (up_ne _ _ _ _ (by omega)).trans (h.1 a a1 a2), fun r hr => ?_, fun i hi => ?_, fun j hj => (up_na (by omega)).trans (h.2.2.2 j hj)⟩
  · have := h.2.1 r hr
    simp only [up_ap]
    rw [if_neg (by omega), if_neg (by omega)]
    exact this
  · have := h.2.2.1 i hi
    simp only [up_ap]
    rw [if_neg (by omega), if_neg (by omega), if_neg (by omega)]
    exact this
/-- a FAULT is there -/
def fE (I : HI) (e : Nat × Nat) : Prop := I 80 9 = nI e.1 ∧ ¬ I 80 9 = 0 ∧ I 80 10 = nI e.2
theorem fE_f {I : HI} {e : Nat × Nat} {k : Nat} {x : Int32} (h1 : ¬ k = 9) (h2 : ¬ k = 10) (h : fE I e) : fE (up I 80 k x) e := by
  simp only [fE]
  rw [up_nk (by omega), up_nk (by omega)]
  exact h
def rM (Q : Unit → HI → Prop) (I : HI) (n : Nat) (B : Nat → Nat) (r : RS) : Prop := match r with
  | .ok P' => ∀ I', bS I' n B P' → frN I I' → Q () I'
  | .error e => ∀ I', fE I' e → frN I I' → Q () I'
def rD (Q : Unit → HI → Prop) (I : HI) (n : Nat) (B : Nat → Nat) (dep : Nat) (r : RS) : Prop := match r with
  | .ok P' => ∀ I', bS I' n B P' → I' 80 29 = nI dep → frN I I' → Q () I'
  | .error e => ∀ I', fE I' e → frN I I' → Q () I'
theorem rM_mono {Q : Unit → HI → Prop} {I I1 : HI} {n : Nat} {B : Nat → Nat} {r : RS} (hf : frN I I1) (h : rM Q I n B r) : rM Q I1 n B r := by
  cases r with
  | ok P => exact fun I' a b => h I' a (frN_tr hf b)
  | error e => exact fun I' a b => h I' a (frN_tr hf b)
theorem rD_mono {Q : Unit → HI → Prop} {I I1 : HI} {n dep : Nat} {B : Nat → Nat} {r : RS} (hf : frN I I1) (h : rD Q I n B dep r) : rD Q I1 n B dep r := by
  cases r with
  | ok P => exact fun I' a b c => h I' a b (frN_tr hf c)
  | error e => exact fun I' a b => h I' a (frN_tr hf b)
theorem rD_bd {Q Q' : Unit → HI → Prop} {I : HI} {n dep : Nat} {B : Nat → Nat} {r : RS} {f : SP → RS} (h : rD Q I n B dep (bd r f)) (h1 : ∀ P1 I1, r = .ok P1 → bS I1 n B P1 → I1 80 29 = nI dep → frN I I1 → rD Q I1 n B dep (f P1) → Q' () I1) (h2 : ∀ e I1, fE I1 e → frN I I1 → (∀ I2, fE I2 e → frN I I2 → Q () I2) → Q' () I1) : rD Q' I n B dep r := by
  cases r with
  | ok P => exact fun I' a b c => h1 P I' rfl a b c (rD_mono c h)
  | error e => exact fun I' a b => h2 e I' a b h
section MA2
variable {d : Nat} {I : HI} {J : HJ} {R : HR} {B : Nat → Nat} {n : Nat} {P : SP}
theorem f_goOn {Q : Unit → HI → Prop} (hs : Stat R) (hf : ¬ I 80 9 = 0) (h : Q () I) : Wc fv (d + 1) M_X12_goOn [.ref 80] I J R Q := e_X12_goOn hs ⟨fun _ => h, fun z => absurd z hf⟩
theorem f_isSign {Q : Bool → Prop} {x : Int32} (hs : Stat R) (hf : ¬ I 80 9 = 0) (h : Q false) : Wp fb (d + 1) M_X12_isSign [.ref 80, .int x] I J R Q := e_X12_isSign hs ⟨fun _ => h, fun z => absurd z hf⟩
theorem f_isName {Q : Bool → Prop} (hs : Stat R) (hf : ¬ I 80 9 = 0) (h : Q false) : Wp fb (d + 1) M_X12_isName [.ref 80] I J R Q := e_X12_isName hs ⟨fun _ => h, fun z => absurd z hf⟩
theorem f_writes {Q : Unit → HI → Prop} {x y z : Int32} (hs : Stat R) (hf : ¬ I 80 9 = 0) (h : Q () I) : Wc fv (d + 1) M_X12_writes [.ref 80, .int x, .int y, .int z] I J R Q := e_X12_writes hs ⟨fun z => absurd z hf, fun _ => h⟩
theorem f_wrong {Q : Unit → HI → Prop} {x : Int32} (hs : Stat R) (hf : ¬ I 80 9 = 0) (h : Q () I) : Wc fv (d + 1) M_X12_wrong [.ref 80, .int x] I J R Q := e_X12_wrong hs ⟨fun z => absurd z hf, fun _ => h⟩
theorem f_needs {Q : Unit → HI → Prop} {x : Int32} (hs : Stat R) (hf : ¬ I 80 9 = 0) (h : Q () I) : Wc fv (d + 2) M_X12_needs [.ref 80, .int x] I J R Q := e_X12_needs hs ⟨fun _ => f_goOn hs hf h, fun z => absurd z hf⟩
theorem f_factor {Q : Unit → HI → Prop} (hs : Stat R) (hf : ¬ I 80 9 = 0) (h : Q () I) : Wc fv (d + 1) M_X12_factor [.ref 80] I J R Q := e_X12_factor hs ⟨fun z => absurd z hf, fun _ => h⟩
theorem f_product {Q : Unit → HI → Prop} (hs : Stat R) (hf : ¬ I 80 9 = 0) (h : Q () I) : Wc fv (d + 2) M_X12_product [.ref 80] I J R Q := by
  refine ⟨Nat.le_of_ble_eq_true rfl, fun K hK => ?_⟩
  refine g_X12_product_0 hK hs (f_factor hs hf ?_)
  exact g_X12_product_4 hK hs (f_isSign hs hf ⟨fun z => absurd z (by decide), fun _ => f_isSign hs hf ⟨fun _ => h, fun z => absurd z (by decide)⟩⟩)
theorem f_sum {Q : Unit → HI → Prop} (hs : Stat R) (hf : ¬ I 80 9 = 0) (h : Q () I) : Wc fv (d + 3) M_X12_sum [.ref 80] I J R Q := by
  refine ⟨Nat.le_of_ble_eq_true rfl, fun K hK => ?_⟩
  refine g_X12_sum_0 hK hs (f_product hs hf ?_)
  exact g_X12_sum_4 hK hs (f_isSign hs hf ⟨fun z => absurd z (by decide), fun _ => f_isSign hs hf ⟨fun _ => h, fun z => absurd z (by decide)⟩⟩)
theorem f_whole {Q : Unit → HI → Prop} (hs : Stat R) (hf : ¬ I 80 9 = 0) (h : Q () (up I 80 29 0)) : Wc fv (d + 4) M_X12_whole [.ref 80] I J R Q := e_X12_whole hs (f_sum hs (by rw [up_nk (by decide)]; exact hf) h)
theorem f_numeral {Q : Int32 → HI → Prop} {x y : Int32} (hs : Stat R) (hf : ¬ I 80 9 = 0) (h : Q x I) : Wc fi (d + 1) M_X12_numeral [.ref 80, .int x, .int y] I J R Q := by
  refine ⟨Nat.le_of_ble_eq_true rfl, fun K hK => ?_⟩
  exact g_X12_numeral_0 hK hs ⟨fun z => absurd z hf, fun _ => h⟩
theorem f_opens {Q : Unit → HI → Prop} {x y : Int32} (hs : Stat R) (hf : ¬ I 80 9 = 0) (h : Q () I) : Wc fv (d + 1) M_X12_opens [.ref 80, .int x, .int y] I J R Q := e_X12_opens hs ⟨fun z => absurd z hf, fun _ => h⟩
theorem f_addsRow {Q : Unit → HI → Prop} {x y z : Int32} (hs : Stat R) (hf : ¬ I 80 9 = 0) (h : Q () I) : Wc fv (d + 1) M_X12_addsRow [.ref 80, .int x, .int y, .int z] I J R Q := e_X12_addsRow hs ⟨fun z => absurd z hf, fun _ => h⟩
theorem f_target {Q : Int32 → HI → Prop} (hs : Stat R) (hf : ¬ I 80 9 = 0) (h : Q 0 I) : Wc fi (d + 2) M_X12_target [.ref 80] I J R Q := by
  refine ⟨Nat.le_of_ble_eq_true rfl, fun K hK => ?_⟩
  refine g_X12_target_0 hK hs (f_isName hs hf ⟨fun _ => f_wrong hs hf ?_, fun z => absurd z (by decide)⟩)
  refine g_X12_target_24 hK hs ⟨fun _ => ?_, fun z => absurd z hf⟩
  exact g_X12_target_63 hK hs ⟨fun _ => f_goOn hs hf h, fun z => absurd z hf⟩
theorem f_newName {Q : Int32 → HI → Prop} (hs : Stat R) (hf : ¬ I 80 9 = 0) (h : ∀ x, Q x I) : Wc fi (d + 2) M_X12_newName [.ref 80] I J R Q := e_X12_newName hs (f_isName hs hf ⟨fun z => absurd z (by decide), fun _ => f_wrong hs hf (f_goOn hs hf (h _))⟩)
theorem f_bracket {Q : Unit → HI → Prop} (hs : Stat R) (hf : ¬ I 80 9 = 0) (h : Q () (up I 80 29 (I 80 29 + 1))) : Wc fv (d + 2) M_X12_bracket [.ref 80] I J R Q := e_X12_bracket hs ⟨fun _ => f_goOn hs (by rw [up_nk (by decide)]; exact hf) h, fun z => absurd z hf⟩
theorem mtR_cg {I : HI} {t t' : Nat → Nat} (h : ∀ j, j < 4 → t' j = t j) (hs : mtR I t) : mtR I t' := by
  simp only [mtR, h 0 (by omega), h 1 (by omega), h 2 (by omega), h 3 (by omega)]
  exact hs
theorem mtR_I {I I' : HI} {t : Nat → Nat} (h : ∀ k, 5 ≤ k → k ≤ 8 → I' 80 k = I 80 k) (hs : mtR I t) : mtR I' t := by
  simp only [mtR, mtok, h 5 (by decide) (by decide), h 6 (by decide) (by decide), h 7 (by decide) (by decide), h 8 (by decide) (by decide)]
  exact hs
theorem bS_T {I' : HI} (hS : bS I n B P) (hf : frT I I') (hm : mtR I' (tkF B n (P 0 3))) : bS I' n B (adv B n P) := by
  obtain ⟨s1, s2, s3, s4, s5, s6, s7⟩ := hS
  refine ⟨mtR_cg (fun j hj => adv_t hj) hm, ?_, ?_, ?_, ?_, ?_, ?_⟩
  · rw [hf.2 4 (by decide), hf.2 9 (by decide), hf.1 81 (by decide)]; exact s2
  · rw [hf.2 24 (by decide), hf.2 3 (by decide), hf.2 15 (by decide), hf.2 14 (by decide), hf.2 19 (by decide), hf.2 20 (by decide), hf.2 27 (by decide), hf.2 28 (by decide), adv_f (by decide), adv_f (by decide), adv_f (by decide), adv_f (by decide), adv_f (by decide), adv_f (by decide), adv_f (by decide), adv_f (by decide)]; exact s3
  · rw [hf.1 86 (by decide), hf.1 87 (by decide), hf.1 88 (by decide), adv_f (by decide), adv_c (by decide), adv_c (by decide), adv_c (by decide)]; exact s4
  · rw [hf.1 84 (by decide), hf.1 85 (by decide), hf.1 83 (by decide), adv_f (by decide), adv_c (by decide), adv_c (by decide), adv_c (by decide)]; exact s5
  · rw [hf.1 82 (by decide), adv_f (by decide), adv_c (by decide)]; exact s6
  · rw [hf.1 89 (by decide), hf.1 90 (by decide), adv_f (by decide), adv_c (by decide), adv_c (by decide)]; exact s7
theorem t_goOn {Q : Unit → HI → Prop} (hs : Stat R) (hn : n ≤ 900) (hB : ∀ j, B j < 256) (h3 : P 0 3 ≤ n) (hS : bS I n B P) (h : ∀ I', bS I' n B (adv B n P) → frT I I' → Q () I') : Wc fv (d + 4) M_X12_goOn [.ref 80] I J R Q :=
  e_X12_goOn hs ⟨fun z => absurd hS.2.1.2.1 z, fun _ => t_token (p := P 0 3) hs hn h3 hS.2.1.1 hS.1.1 hS.2.1.2.2 hB (fun I' f g => h I' (bS_T hS f g) f)⟩
theorem t_mwrong {k : Nat} {Q : Unit → HI → Prop} (hs : Stat R) (hk : 1 ≤ k ∧ k ≤ 3) (hS : bS I n B P) (h : ∀ I', fE I' (k, P 0 2) → frN I I' → Q () I') : Wc fv (d + 1) M_X12_wrong [.ref 80, .int (nI k)] I J R Q := by
  refine e_X12_wrong hs ⟨fun _ => ?_, fun z => absurd hS.2.1.2.1 z⟩
  refine h _ ⟨?_, ?_, ?_⟩ (frN_f (by omega) (frN_f (by omega) frN_rf))
  · rw [up_nk (by decide), up_s]
  · rw [up_nk (by decide), up_s]
    exact nI_ne0 (by omega) (by omega)
  · rw [up_s]
    exact hS.1.2.1
theorem t_misS {c : Nat} {Q : Bool → Prop} (hs : Stat R) (hc : c < 128) (hk : okB n P) (hS : bS I n B P) (h : Q (isS c P)) : Wp fb (d + 1) M_X12_isSign [.ref 80, .int (nI c)] I J R Q := by
  refine e_X12_isSign hs ⟨fun z => absurd hS.2.1.2.1 z, fun _ => ?_⟩
  obtain ⟨_, _, hm⟩ := hS.1
  simp only [isS] at h
  rcases hm with ⟨k, a⟩ | ⟨k, a, b⟩ | ⟨k, a, b⟩ | ⟨k, a, b⟩ | ⟨k, a⟩ | ⟨k, a, b⟩
  · rw [decide_eq_false (by omega)] at h
    refine ⟨fun _ => h, fun z => ?_⟩
    rw [a] at z; exact absurd z (by decide)
  · rw [decide_eq_false (by omega)] at h
    refine ⟨fun _ => h, fun z => ?_⟩
    rw [a] at z; exact absurd z (by decide)
  · rw [decide_eq_false (by omega)] at h
    refine ⟨fun _ => h, fun z => ?_⟩
    rw [a] at z; exact absurd z (by decide)
  · have hv := hk.1.2.2.2.2.2.1 k
    refine ⟨fun z => absurd a z, fun _ => ?_⟩
    rw [b, nI_eq (by omega) (by omega)]
    refine ⟨fun z => ?_, fun z => ?_⟩
    · rw [decide_eq_false (by omega)] at h; exact h
    · rw [decide_eq_true ⟨k, z⟩] at h; exact h
  · rw [decide_eq_false (by omega)] at h
    refine ⟨fun _ => h, fun z => ?_⟩
    rw [a] at z; exact absurd z (by decide)
  · rw [decide_eq_false (by omega)] at h
    refine ⟨fun _ => h, fun z => ?_⟩
    rw [a] at z; exact absurd z (by decide)
theorem t_isOwn {w : Nat} {Q : Bool → Prop} (hs : Stat R) (hw : w < 531441) (h : Q (ownW w)) : Wp fb (d + 1) M_X12_isOwn [.int (nI w)] I J R Q := by
  refine e_X12_isOwn hs ?_
  have e : ∀ k : Nat, k < 1000000 → ((nI w = nI k) ↔ w = k) := fun k hk => nI_eq (by omega) (by omega)
  have e1 : (nI w = (257 : Int32)) ↔ w = 257 := e 257 (by decide)
  have e2 : (nI w = (13550 : Int32)) ↔ w = 13550 := e 13550 (by decide)
  have e3 : (nI w = (247552 : Int32)) ↔ w = 247552 := e 247552 (by decide)
  have e4 : (nI w = (249 : Int32)) ↔ w = 249 := e 249 (by decide)
  have e5 : (nI w = (107681 : Int32)) ↔ w = 107681 := e 107681 (by decide)
  have e6 : (nI w = (4027 : Int32)) ↔ w = 4027 := e 4027 (by decide)
  have e7 : (nI w = (11522 : Int32)) ↔ w = 11522 := e 11522 (by decide)
  have e8 : (nI w = (900000 : Int32)) ↔ w = 900000 := e 900000 (by decide)
  rw [e1, e2, e3, e4, e5, e6, e7, e8]
  have yes : ownW w = true → Q true := fun z => by rw [z] at h; exact h
  refine ⟨fun z => yes (decide_eq_true (by omega)), fun z1 => ⟨fun z => yes (decide_eq_true (by omega)), fun z2 => ⟨fun z => yes (decide_eq_true (by omega)), fun z3 => ⟨fun z => yes (decide_eq_true (by omega)), fun z4 => ⟨fun z => yes (decide_eq_true (by omega)), fun z5 => ⟨fun z => yes (decide_eq_true (by omega)), fun z6 => ⟨fun z => yes (decide_eq_true (by omega)), fun z7 => ⟨fun _ => ?_, fun z => by omega⟩⟩⟩⟩⟩⟩⟩⟩
  rw [show ownW w = false from decide_eq_false (by omega)] at h
  exact h
theorem t_misN {Q : Bool → Prop} (hs : Stat R) (hk : okB n P) (hS : bS I n B P) (h : Q (isNm P)) : Wp fb (d + 2) M_X12_isName [.ref 80] I J R Q := by
  refine e_X12_isName hs ⟨fun z => absurd hS.2.1.2.1 z, fun _ => ?_⟩
  obtain ⟨_, _, hm⟩ := hS.1
  simp only [isNm] at h
  rcases hm with ⟨k, a⟩ | ⟨k, a, b⟩ | ⟨k, a, b⟩ | ⟨k, a, b⟩ | ⟨k, a⟩ | ⟨k, a, b⟩
  · rw [k] at h
    refine ⟨fun _ => h, fun z => ?_⟩
    rw [a] at z; exact absurd z (by decide)
  · rw [k, decide_eq_true rfl, Bool.true_and] at h
    refine ⟨fun z => absurd a z, fun _ => ?_⟩
    rw [b]
    refine t_isOwn hs (hk.1.2.2.2.2.1 k) ⟨fun z => ?_, fun z => ?_⟩
    · rw [z] at h; exact h
    · rw [z] at h; exact h
  · rw [k] at h
    refine ⟨fun _ => h, fun z => ?_⟩
    rw [a] at z; exact absurd z (by decide)
  · rw [k] at h
    refine ⟨fun _ => h, fun z => ?_⟩
    rw [a] at z; exact absurd z (by decide)
  · rw [k] at h
    refine ⟨fun _ => h, fun z => ?_⟩
    rw [a] at z; exact absurd z (by decide)
  · rw [k] at h
    refine ⟨fun _ => h, fun _ => ?_⟩
    rw [b]
    refine e_X12_isOwn hs ⟨fun z => absurd z (by decide), fun _ => ⟨fun z => absurd z (by decide), fun _ => ⟨fun z => absurd z (by decide), fun _ => ⟨fun z => absurd z (by decide), fun _ => ⟨fun z => absurd z (by decide), fun _ => ⟨fun z => absurd z (by decide), fun _ => ⟨fun z => absurd z (by decide), fun _ => ⟨fun z => absurd rfl z, fun _ => ⟨fun _ => h, fun z => absurd z (by decide)⟩⟩⟩⟩⟩⟩⟩⟩⟩
theorem bS_w (hS : bS I n B P) (h0 : P 0 0 = 1 ∨ P 0 0 = 3) : I 80 8 = nI (P 0 1) := by
  obtain ⟨_, _, hm⟩ := hS.1
  rcases hm with ⟨k, _⟩ | ⟨k, a, b⟩ | ⟨k, _⟩ | ⟨k, a, b⟩ | ⟨k, _⟩ | ⟨k, _⟩
  all_goals first
    | exact b
    | omega
theorem t_mrow {Q : Int32 → Prop} (hs : Stat R) (hk : okB n P) (hS : bS I n B P) (h0 : P 0 0 = 1) (h : Q (oI (rwO P))) : Wp fi (d + 1) M_X12_rowOf [.ref 80, .int (I 80 8)] I J R Q := by
  refine ⟨Nat.le_of_ble_eq_true rfl, fun K hK => ?_⟩
  have hw := hk.1.2.2.2.2.1 h0
  have h6 := hk.2.2.1.2.2.2.1
  rw [bS_w hS (Or.inl h0)]
  have loop : ∀ (m i : Nat), i + m = P 0 8 → Q (oI (fnd (P 5) (P 0 1) m i)) → K 2 [(0, .ref 80), (1, .int (nI (P 0 1))), (2, .int (nI i))] [] I J R := by
    intro m
    induction m with
    | zero =>
      intro i hi hq
      have : i = P 0 8 := by omega
      subst this
      refine g_X12_rowOf_2 hK hs ?_
      rw [hS.2.2.1.2.2.2.2.1]
      exact ⟨fun _ => hq, fun z => absurd (nI_le (Nat.le_refl _) (by omega)) z⟩
    | succ m ih =>
      intro i hi hq
      refine g_X12_rowOf_2 hK hs ?_
      rw [hS.2.2.1.2.2.2.2.1]
      refine ⟨fun z => absurd z (nI_ge (by omega) (by omega)), fun _ => ⟨i, rfl, by omega, ?_⟩⟩
      have hr := (hk.2.2.2.2 i (by omega)).1
      rw [(hS.2.2.2.2.1 i (by omega)).2.2, nI_eq (by omega) (by omega), nI_1]
      simp only [fnd] at hq
      refine ⟨fun z => ?_, fun z => ?_⟩
      · rw [if_neg z] at hq
        exact ih (i + 1) (by omega) hq
      · rw [if_pos z] at hq
        exact hq
  exact g_X12_rowOf_0 hK hs (loop (P 0 8) 0 (by omega) h)
theorem t_mvar {Q : Int32 → Prop} (hs : Stat R) (hk : okB n P) (hS : bS I n B P) (h0 : P 0 0 = 1) (h : Q (oI (vrO P))) : Wp fi (d + 1) M_X12_variableOf [.ref 80, .int (I 80 8)] I J R Q := by
  refine ⟨Nat.le_of_ble_eq_true rfl, fun K hK => ?_⟩
  have hw := hk.1.2.2.2.2.1 h0
  have h8 := hk.2.2.1.2.2.1
  rw [bS_w hS (Or.inl h0)]
  have loop : ∀ (m i : Nat), i + m = P 0 7 → Q (oI (fnd (P 4) (P 0 1) m i)) → K 2 [(0, .ref 80), (1, .int (nI (P 0 1))), (2, .int (nI i))] [] I J R := by
    intro m
    induction m with
    | zero =>
      intro i hi hq
      have : i = P 0 7 := by omega
      subst this
      refine g_X12_variableOf_2 hK hs ?_
      rw [hS.2.2.1.2.2.2.1]
      exact ⟨fun _ => hq, fun z => absurd (nI_le (Nat.le_refl _) (by omega)) z⟩
    | succ m ih =>
      intro i hi hq
      refine g_X12_variableOf_2 hK hs ?_
      rw [hS.2.2.1.2.2.2.1]
      refine ⟨fun z => absurd z (nI_ge (by omega) (by omega)), fun _ => ⟨i, rfl, by omega, ?_⟩⟩
      have hr := hk.2.2.2.1 i (by omega)
      rw [hS.2.2.2.2.2.1 i (by omega), nI_eq (by omega) (by omega), nI_1]
      simp only [fnd] at hq
      refine ⟨fun z => ?_, fun z => ?_⟩
      · rw [if_neg z] at hq
        exact ih (i + 1) (by omega) hq
      · rw [if_pos z] at hq
        exact hq
  exact g_X12_variableOf_0 hK hs (loop (P 0 7) 0 (by omega) h)
theorem t_mem {op a m : Nat} {Q : Unit → HI → Prop} (hs : Stat R) (h4 : P 0 4 < 900) (hS : bS I n B P) (h : ∀ I', bS I' n B (em op a m P) → frN I I' → I' 80 29 = I 80 29 → Q () I') : Wc fv (d + 1) M_X12_writes [.ref 80, .int (nI op), .int (nI a), .int (nI m)] I J R Q := by
  obtain ⟨s1, s2, s3, s4, s5, s6, s7⟩ := hS
  refine e_X12_writes hs ⟨fun _ => ?_, fun z => absurd s2.2.1 z⟩
  rw [s3.1, show (1000 : Int32) + nI (P 0 4) = nI (1000 + P 0 4) from nI_add 1000 _, nI_1]
  refine ⟨1000 + P 0 4, rfl, by omega, ?_⟩
  have e : ∀ c, ¬ c = 80 → ¬ c = 86 → ¬ c = 87 → ¬ c = 88 → up (up (up (up I 86 (1000 + P 0 4) (nI op)) 87 (1000 + P 0 4) (nI a)) 88 (1000 + P 0 4) (nI m)) 80 24 (nI (P 0 4 + 1)) c = I c := fun c a1 a2 a3 a4 => by rw [up_ne _ _ _ _ a1, up_ne _ _ _ _ a4, up_ne _ _ _ _ a3, up_ne _ _ _ _ a2]
  have ef : ∀ k, ¬ k = 24 → up (up (up (up I 86 (1000 + P 0 4) (nI op)) 87 (1000 + P 0 4) (nI a)) 88 (1000 + P 0 4) (nI m)) 80 24 (nI (P 0 4 + 1)) 80 k = I 80 k := fun k hk => by rw [up_nk hk, up_na (by decide), up_na (by decide), up_na (by decide)]
  refine h _ ⟨mtR_I (fun k h1 h2 => ef k (by omega)) (mtR_cg (fun j hj => em_0 (by omega)) s1), ?_, ?_, fun i hi => ?_, ?_, ?_, ?_⟩ (frN_f (by omega) (frN_c (by omega) (by omega) (by omega) (frN_c (by omega) (by omega) (by omega) (frN_c (by omega) (by omega) (by omega) frN_rf)))) (ef 29 (by decide))
  · rw [ef 4 (by decide), ef 9 (by decide), e 81 (by decide) (by decide) (by decide) (by decide)]; exact s2
  · rw [ef 3 (by decide), ef 15 (by decide), ef 14 (by decide), ef 19 (by decide), ef 20 (by decide), ef 27 (by decide), ef 28 (by decide), up_s, em_4, em_0 (j := 5) (by decide), em_0 (j := 6) (by decide), em_0 (j := 7) (by decide), em_0 (j := 8) (by decide), em_0 (j := 9) (by decide), em_0 (j := 10) (by decide), em_0 (j := 11) (by decide)]
    exact ⟨rfl, s3.2⟩
  · rw [em_4] at hi
    rw [em_1, em_2, em_3]
    simp only [up_ap]
    by_cases hii : i = P 0 4
    · rw [if_pos hii, if_pos hii, if_pos hii]
      refine ⟨?_, ?_, ?_⟩
      · rw [if_neg (by omega), if_neg (by omega), if_neg (by omega), if_pos ⟨trivial, by omega⟩]
      · rw [if_neg (by omega), if_neg (by omega), if_pos ⟨trivial, by omega⟩]
      · rw [if_neg (by omega), if_pos ⟨trivial, by omega⟩]
    · have := s4 i (by omega)
      rw [if_neg hii, if_neg hii, if_neg hii]
      refine ⟨?_, ?_, ?_⟩
      · rw [if_neg (by omega), if_neg (by omega), if_neg (by omega), if_neg (by omega)]; exact this.1
      · rw [if_neg (by omega), if_neg (by omega), if_neg (by omega), if_neg (by omega)]; exact this.2.1
      · rw [if_neg (by omega), if_neg (by omega), if_neg (by omega), if_neg (by omega)]; exact this.2.2
  · rw [e 84 (by decide) (by decide) (by decide) (by decide), e 85 (by decide) (by decide) (by decide) (by decide), e 83 (by decide) (by decide) (by decide) (by decide), em_0 (by decide), em_c (by decide), em_c (by decide), em_c (by decide)]; exact s5
  · rw [e 82 (by decide) (by decide) (by decide) (by decide), em_0 (by decide), em_c (by decide)]; exact s6
  · rw [e 89 (by decide) (by decide) (by decide) (by decide), e 90 (by decide) (by decide) (by decide) (by decide), em_0 (by decide), em_c (by decide), em_c (by decide)]; exact s7
theorem bS_29 {x : Int32} (hS : bS I n B P) : bS (up I 80 29 x) n B P := by
  obtain ⟨s1, s2, s3, s4, s5, s6, s7⟩ := hS
  have e : ∀ c, ¬ c = 80 → up I 80 29 x c = I c := fun c hc => up_ne _ _ _ _ hc
  have ef : ∀ k, ¬ k = 29 → up I 80 29 x 80 k = I 80 k := fun k hk => up_nk hk
  refine ⟨mtR_I (fun k h1 h2 => ef k (by omega)) s1, ?_, ?_, ?_, ?_, ?_, ?_⟩
  · rw [ef 4 (by decide), ef 9 (by decide), e 81 (by decide)]; exact s2
  · rw [ef 24 (by decide), ef 3 (by decide), ef 15 (by decide), ef 14 (by decide), ef 19 (by decide), ef 20 (by decide), ef 27 (by decide), ef 28 (by decide)]; exact s3
  · rw [e 86 (by decide), e 87 (by decide), e 88 (by decide)]; exact s4
  · rw [e 84 (by decide), e 85 (by decide), e 83 (by decide)]; exact s5
  · rw [e 82 (by decide)]; exact s6
  · rw [e 89 (by decide), e 90 (by decide)]; exact s7
end MA2
