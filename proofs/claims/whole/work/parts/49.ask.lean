/-! what is asked of a RUN that ended: both sides, the simple ones -/
def inN (x : Int32) (n : Nat) : Bool := decide (0 ≤ x.toInt ∧ x.toInt < n)
def xN (x : Int32) : Nat := x.toInt.toNat
theorem x_lt0 (x : Int32) : (x < 0) ↔ x.toInt < 0 := Int32.lt_iff_toInt_lt
theorem x_nle {n : Nat} (x : Int32) (hn : n < 2 ^ 31) : (nI n ≤ x) ↔ (n : Int) ≤ x.toInt := by rw [Int32.le_iff_toInt_le, nI_toInt hn]
theorem x_ltn {n : Nat} (x : Int32) (hn : n < 2 ^ 31) : (x < nI n) ↔ x.toInt < n := by rw [Int32.lt_iff_toInt_lt, nI_toInt hn]
theorem x_len {n : Nat} (x : Int32) (hn : n < 2 ^ 31) : (x ≤ nI n) ↔ x.toInt ≤ n := by rw [Int32.le_iff_toInt_le, nI_toInt hn]
theorem x_nlt {n : Nat} (x : Int32) (hn : n < 2 ^ 31) : (nI n < x) ↔ (n : Int) < x.toInt := by rw [Int32.lt_iff_toInt_lt, nI_toInt hn]
theorem x_eqn {n : Nat} (x : Int32) (hn : n < 2 ^ 31) : (x = nI n) ↔ x.toInt = n := by rw [← Int32.toInt_inj, nI_toInt hn]
theorem x_0le (x : Int32) : (0 ≤ x) ↔ 0 ≤ x.toInt := Int32.le_iff_toInt_le
theorem xN_n {k : Nat} (h : k < 2 ^ 31) : xN (nI k) = k := by simp [xN, nI_toInt h]
theorem xc (x : Int32) (n : Nat) (hn : n < 2 ^ 31) : (x < 0 ∧ inN x n = false) ∨ (¬ x < 0 ∧ nI n ≤ x ∧ ¬ x < nI n ∧ inN x n = false) ∨ (∃ k, x = nI k ∧ k < n ∧ inN x n = true ∧ xN x = k ∧ ¬ x < 0 ∧ ¬ nI n ≤ x ∧ x < nI n) := by
  rw [x_lt0, x_nle x hn, x_ltn x hn]
  by_cases h0 : x.toInt < 0
  · exact Or.inl ⟨h0, decide_eq_false (by omega)⟩
  · by_cases h1 : (n : Int) ≤ x.toInt
    · exact Or.inr (Or.inl ⟨h0, h1, by omega, decide_eq_false (by omega)⟩)
    · have hk : x = nI x.toInt.toNat := (x_eqn x (by omega)).mpr (by omega)
      exact Or.inr (Or.inr ⟨x.toInt.toNat, hk, by omega, decide_eq_true (by omega), rfl, h0, h1, by omega⟩)
theorem x01 {x : Int32} (h0 : ¬ x < 0) (h1 : x ≤ 1) (h2 : ¬ x = 0) : x = 1 := by
  rw [x_lt0] at h0
  have h1' := (x_len (n := 1) x (by decide)).mp h1
  have h2' : ¬ x.toInt = 0 := fun q => h2 ((x_eqn (n := 0) x (by decide)).mpr q)
  exact (x_eqn (n := 1) x (by decide)).mpr (by omega)
theorem x_no1 {x : Int32} (h : ¬ x ≤ 1) : ¬ x = 0 ∧ ¬ x = 1 := by
  rw [show (1 : Int32) = nI 1 from rfl, x_len x (by decide)] at h
  rw [show (1 : Int32) = nI 1 from rfl, show (0 : Int32) = nI 0 from rfl, x_eqn x (by decide), x_eqn x (by decide)]
  omega
theorem x_no0 {x : Int32} (h : x < 0) : ¬ x = 0 ∧ ¬ x = 1 := by
  rw [x_lt0] at h
  rw [show (1 : Int32) = nI 1 from rfl, show (0 : Int32) = nI 0 from rfl, x_eqn x (by decide), x_eqn x (by decide)]
  omega
/-- the class: what is asked of -/
def cQ (I : HI) (R : HR) (G : SP) (N : Nat → List Nat) (T : SP) : Prop := Stat R ∧ (∃ p, R 0 5 = some p ∧ isX5 p ∧ pR I p G) ∧ mR I 17 G N T
/-- the reference: what is asked of -/
def rQ (I : HI) (J : HJ) (R : HR) (G T : SP) : Prop := Stat R ∧ pM I G ∧ qM I J T [] ∧ stM I T
def readV (f g : Nat → Nat) (n : Nat) (x1 x2 : Int32) : Int32 := if inN x1 n = true then (if x2 = 0 then nI (f (xN x1)) else if x2 = 1 then sI (g (xN x1)) else -10) else -10
section AS
variable {d : Nat} {I : HI} {J : HJ} {R : HR} {G T : SP} {D : Nat → Nat} {N : Nat → List Nat} {inp : Nat → Nat} {x1 x2 x3 : Int32}
theorem t_read {o n : Nat} {f g : Nat → Nat} {Q : Int32 → Prop} (hs : Stat R) (ho : isX8 o) (hn : n ≤ 48) (hS : slR I o f g n) (h : Q (readV f g n x1 x2)) : Wp fi (d + 2) M_X11_read [.ref o, .int x1, .int x2] I J R Q := by
  refine e_X11_read hs ho ?_
  rw [hS.1]
  simp only [readV] at h
  rcases xc x1 n (by omega) with ⟨c0, c1⟩ | ⟨c0, c1, c2, c3⟩ | ⟨k, ck, c0, c1, c2, c3, c4, c5⟩
  · rw [c1, if_neg (by decide)] at h
    exact ⟨fun _ => h, fun hc => absurd c0 hc⟩
  · rw [c3, if_neg (by decide)] at h
    exact ⟨fun _ => h, fun _ => ⟨fun hc => absurd hc c2, fun _ => h⟩⟩
  · rw [c1, if_pos rfl, c2] at h
    refine ⟨fun hc => absurd hc c3, fun _ => ⟨fun _ => ⟨fun e0 => ?_, fun e0 => ⟨fun e1 => ?_, fun e1 => ?_⟩⟩, fun hc => absurd c5 hc⟩⟩
    · rw [if_pos e0] at h
      rw [ck]
      refine t_valueAt hs ho hS.1 hn c0 ?_
      rw [hS.2.1 k c0]
      exact h
    · rw [if_neg e0, if_pos e1] at h
      rw [ck]
      refine t_sourceAt hs ho hS.1 hn c0 ?_
      rw [hS.2.2 k c0]
      exact h
    · rw [if_neg e0, if_neg e1] at h
      exact h
theorem c_variable {Q : Int32 → Prop} (hw : wfG G D N) (hc : cQ I R G N T) (h : Q (readV (T 3) (T 4) (G 3 3) x1 x2)) : Wp fi (d + 3) M_X11_variable [.ref 0, .int x1, .int x2] I J R Q :=
  e_X11_variable hc.1 (t_read hc.1 (Or.inl rfl) (by have := hw.2.2.2.2.2.2.2.1; omega) hc.2.2.2.1 h)
theorem c_cell {Q : Int32 → Prop} (hw : wfG G D N) (hc : cQ I R G N T) (h : Q (readV (T 5) (T 6) (G 3 5) x1 x2)) : Wp fi (d + 3) M_X11_cell [.ref 0, .int x1, .int x2] I J R Q :=
  e_X11_cell hc.1 (t_read hc.1 (Or.inr (Or.inl rfl)) hw.2.2.2.2.2.2.2.2.2.1 hc.2.2.2.2.1 h)
theorem c_out {Q : Int32 → Prop} (hF : finT G T) (hc : cQ I R G N T) (h : Q (readV (T 7) (T 8) (T 0 3) x1 x2)) : Wp fi (d + 3) M_X11_out [.ref 0, .int x1, .int x2] I J R Q :=
  e_X11_out hc.1 (t_read hc.1 (Or.inr (Or.inr (Or.inr (Or.inl rfl)))) (by have := hF.1.2.2.2.2.1; omega) hc.2.2.2.2.2.2.1 h)
theorem m_variable {Q : Int32 → HI → Prop} (hw : wfG G D N) (hr : rQ I J R G T) (h : Q (readV (T 3) (T 4) (G 3 3) x1 x2) (up I 80 0 0)) : Wc fi (d + 1) M_X12_variable [.ref 80, .int x1, .int x2] I J R Q := by
  have h8 := hw.2.2.2.2.2.2.2.1
  refine e_X12_variable hr.1 ?_
  rw [hr.2.1.2.2.2.1]
  simp only [readV] at h
  rcases xc x1 (G 3 3) (by omega) with ⟨c0, c1⟩ | ⟨c0, c1, c2, c3⟩ | ⟨k, ck, c0, c1, c2, c3, c4, c5⟩
  · rw [c1, if_neg (by decide)] at h
    exact ⟨fun _ => h, fun hc => absurd c0 hc⟩
  · rw [c3, if_neg (by decide)] at h
    exact ⟨fun _ => h, fun _ => ⟨fun _ => h, fun hc => absurd c1 hc⟩⟩
  · rw [c1, if_pos rfl, c2] at h
    refine ⟨fun hc => absurd hc c3, fun _ => ⟨fun hc => absurd hc c4, fun _ => ⟨fun e => ?_, fun e => ⟨fun e1 => ⟨fun e0 => ⟨k, ck, by omega, ?_⟩, fun e0 => ⟨k, ck, by omega, ?_⟩⟩, fun e1 => ?_⟩⟩⟩⟩
    · rw [if_neg (x_no0 e).1, if_neg (x_no0 e).2] at h
      exact h
    · rw [if_neg e0, if_pos (x01 e e1 e0)] at h
      rw [hr.2.2.1.2.2.1.2 k (by omega)]
      exact h
    · rw [if_pos e0] at h
      rw [hr.2.2.1.2.2.1.1 k (by omega), lN_i]
      exact h
    · rw [if_neg (x_no1 e1).1, if_neg (x_no1 e1).2] at h
      exact h
theorem m_cell {Q : Int32 → HI → Prop} (hw : wfG G D N) (hr : rQ I J R G T) (h : Q (readV (T 5) (T 6) (G 3 5) x1 x2) (up I 80 0 0)) : Wc fi (d + 1) M_X12_cell [.ref 80, .int x1, .int x2] I J R Q := by
  have h8 := hw.2.2.2.2.2.2.2.2.2.1
  refine e_X12_cell hr.1 ?_
  rw [hr.2.1.2.2.2.2.2.1]
  simp only [readV] at h
  rcases xc x1 (G 3 5) (by omega) with ⟨c0, c1⟩ | ⟨c0, c1, c2, c3⟩ | ⟨k, ck, c0, c1, c2, c3, c4, c5⟩
  · rw [c1, if_neg (by decide)] at h
    exact ⟨fun _ => h, fun hc => absurd c0 hc⟩
  · rw [c3, if_neg (by decide)] at h
    exact ⟨fun _ => h, fun _ => ⟨fun _ => h, fun hc => absurd c1 hc⟩⟩
  · rw [c1, if_pos rfl, c2] at h
    refine ⟨fun hc => absurd hc c3, fun _ => ⟨fun hc => absurd hc c4, fun _ => ⟨fun e => ?_, fun e => ⟨fun e1 => ⟨fun e0 => ⟨k, ck, by omega, ?_⟩, fun e0 => ⟨k, ck, by omega, ?_⟩⟩, fun e1 => ?_⟩⟩⟩⟩
    · rw [if_neg (x_no0 e).1, if_neg (x_no0 e).2] at h
      exact h
    · rw [if_neg e0, if_pos (x01 e e1 e0)] at h
      rw [hr.2.2.1.2.2.2.1.2 k (by omega)]
      exact h
    · rw [if_pos e0] at h
      rw [hr.2.2.1.2.2.2.1.1 k (by omega), lN_i]
      exact h
    · rw [if_neg (x_no1 e1).1, if_neg (x_no1 e1).2] at h
      exact h
theorem t_isOut {Q : Bool → Prop} {L : List Nat} (hs : Stat R) (hF : finT G T) (hM : qM I J T L) (h : Q (inN x1 (T 0 3))) : Wp fb (d + 1) M_X12_isOut [.ref 80, .int x1] I J R Q := by
  have h3 := hF.1.2.2.2.2.1
  refine e_X12_isOut hs ?_
  rw [hM.1.2.2.1]
  rcases xc x1 (T 0 3) (by omega) with ⟨c0, c1⟩ | ⟨c0, c1, c2, c3⟩ | ⟨k, ck, c0, c1, c2, c3, c4, c5⟩
  · rw [c1] at h
    exact ⟨fun _ => h, fun hc => absurd c0 hc⟩
  · rw [c3] at h
    exact ⟨fun _ => h, fun _ => ⟨fun _ => h, fun hc => absurd c1 hc⟩⟩
  · rw [c1] at h
    exact ⟨fun hc => absurd hc c3, fun _ => ⟨fun hc => absurd hc c4, fun _ => h⟩⟩
theorem t_isEntry {Q : Bool → Prop} {L : List Nat} (hs : Stat R) (hF : finT G T) (hM : qM I J T L) (h : Q (inN x1 (T 0 4))) : Wp fb (d + 1) M_X12_isEntry [.ref 80, .int x1] I J R Q := by
  have h3 := hF.1.2.2.2.1
  refine e_X12_isEntry hs ?_
  rw [hM.1.1]
  rcases xc x1 (T 0 4) (by omega) with ⟨c0, c1⟩ | ⟨c0, c1, c2, c3⟩ | ⟨k, ck, c0, c1, c2, c3, c4, c5⟩
  · rw [c1] at h
    exact ⟨fun _ => h, fun hc => absurd c0 hc⟩
  · rw [c3] at h
    exact ⟨fun _ => h, fun _ => ⟨fun _ => h, fun hc => absurd c1 hc⟩⟩
  · rw [c1] at h
    exact ⟨fun hc => absurd hc c3, fun _ => ⟨fun hc => absurd hc c4, fun _ => h⟩⟩
theorem t_isInput {Q : Bool → Prop} (hs : Stat R) (h4 : G 3 2 ≤ 4) (hP : I 80 31 = nI (G 3 2)) (h : Q (inN x1 (G 3 2))) : Wp fb (d + 1) M_X12_isInput [.ref 80, .int x1] I J R Q := by
  refine e_X12_isInput hs ?_
  rw [hP]
  rcases xc x1 (G 3 2) (by omega) with ⟨c0, c1⟩ | ⟨c0, c1, c2, c3⟩ | ⟨k, ck, c0, c1, c2, c3, c4, c5⟩
  · rw [c1] at h
    exact ⟨fun _ => h, fun hc => absurd c0 hc⟩
  · rw [c3] at h
    exact ⟨fun _ => h, fun _ => ⟨fun _ => h, fun hc => absurd c1 hc⟩⟩
  · rw [c1] at h
    exact ⟨fun hc => absurd hc c3, fun _ => ⟨fun hc => absurd hc c4, fun _ => h⟩⟩
theorem t_hasOut {Q : Bool → Prop} (hs : Stat R) (hF : finT G T) (hS : I 27 2 = nI (T 0 3)) (h : Q (inN x1 (T 0 3))) : Wp fb (d + 1) M_X11_hasOut [.ref 0, .int x1] I J R Q := by
  have h3 := hF.1.2.2.2.2.1
  refine e_X11_hasOut hs ?_
  rw [hS]
  rcases xc x1 (T 0 3) (by omega) with ⟨c0, c1⟩ | ⟨c0, c1, c2, c3⟩ | ⟨k, ck, c0, c1, c2, c3, c4, c5⟩
  · rw [c1] at h
    exact ⟨fun _ => h, fun hc => absurd c0 hc⟩
  · rw [c3] at h
    exact ⟨fun _ => h, fun _ => ⟨fun _ => h, fun hc => absurd c1 hc⟩⟩
  · rw [c1] at h
    exact ⟨fun hc => absurd hc c3, fun _ => ⟨fun hc => absurd hc c4, fun _ => h⟩⟩
theorem t_hasEntry {Q : Bool → Prop} (hs : Stat R) (hF : finT G T) (hS : I 30 0 = nI (T 0 4)) (h : Q (inN x1 (T 0 4))) : Wp fb (d + 1) M_X11_hasEntry [.ref 0, .int x1] I J R Q := by
  have h3 := hF.1.2.2.2.1
  refine e_X11_hasEntry hs ?_
  rw [hS]
  rcases xc x1 (T 0 4) (by omega) with ⟨c0, c1⟩ | ⟨c0, c1, c2, c3⟩ | ⟨k, ck, c0, c1, c2, c3, c4, c5⟩
  · rw [c1] at h
    exact ⟨fun _ => h, fun hc => absurd c0 hc⟩
  · rw [c3] at h
    exact ⟨fun _ => h, fun _ => ⟨fun _ => h, fun hc => absurd c1 hc⟩⟩
  · rw [c1] at h
    refine ⟨fun hc => absurd hc c3, fun _ => ⟨fun hc => absurd hc c4, fun _ => ⟨fun hc => ?_, fun _ => h⟩⟩⟩
    rw [ck] at hc
    exact absurd hc (nI_ge (b := 400) (by omega) (by omega))
theorem t_hasInput {p : Nat} {Q : Bool → Prop} (hs : Stat R) (h4 : G 3 2 ≤ 4) (hR : R 0 5 = some p) (hp : isX5 p) (hP : I p 3 = nI (G 3 2)) (h : Q (inN x1 (G 3 2))) : Wp fb (d + 1) M_X11_hasInput [.ref 0, .int x1] I J R Q := by
  refine e_X11_hasInput hs ?_
  rcases xc x1 (G 3 2) (by omega) with ⟨c0, c1⟩ | ⟨c0, c1, c2, c3⟩ | ⟨k, ck, c0, c1, c2, c3, c4, c5⟩
  · rw [c1] at h
    exact ⟨fun _ => h, fun hc => absurd c0 hc⟩
  · rw [c3] at h
    refine ⟨fun _ => h, fun _ => ⟨p, hR, hp, ?_⟩⟩
    rw [hP]
    exact ⟨fun _ => h, fun hc => absurd c1 hc⟩
  · rw [c1] at h
    refine ⟨fun hc => absurd hc c3, fun _ => ⟨p, hR, hp, ?_⟩⟩
    rw [hP]
    refine ⟨fun hc => absurd hc c4, fun _ => ⟨fun hc => ?_, fun _ => h⟩⟩
    rw [ck] at hc
    exact absurd hc (nI_ge (b := 4) (by omega) (by omega))
theorem m_out {Q : Int32 → HI → Prop} (hF : finT G T) (hr : rQ I J R G T) (h : Q (readV (T 7) (T 8) (T 0 3) x1 x2) (up I 80 0 0)) : Wc fi (d + 2) M_X12_out [.ref 80, .int x1, .int x2] I J R Q := by
  have h3 := hF.1.2.2.2.2.1
  refine e_X12_out hr.1 ?_
  have hM : (up I 80 0 0) 80 54 = nI (T 0 3) := (up_nk (by decide)).trans hr.2.2.1.1.2.2.1
  refine e_X12_isOut hr.1 ?_
  rw [hM]
  simp only [readV] at h
  rcases xc x1 (T 0 3) (by omega) with ⟨c0, c1⟩ | ⟨c0, c1, c2, c3⟩ | ⟨k, ck, c0, c1, c2, c3, c4, c5⟩
  · rw [c1, if_neg (by decide)] at h
    exact ⟨fun _ => ⟨fun _ => h, fun hc => absurd hc (by decide)⟩, fun hc => absurd c0 hc⟩
  · rw [c3, if_neg (by decide)] at h
    exact ⟨fun hc => absurd hc c0, fun _ => ⟨fun _ => ⟨fun _ => h, fun hc => absurd hc (by decide)⟩, fun hc => absurd c1 hc⟩⟩
  · rw [c1, if_pos rfl, c2] at h
    refine ⟨fun hc => absurd hc c3, fun _ => ⟨fun hc => absurd hc c4, fun _ => ⟨fun hc => absurd hc (by decide), fun _ => ⟨fun e => ?_, fun e => ⟨fun e1 => ⟨fun e0 => ⟨k, ck, by omega, ?_⟩, fun e0 => ⟨k, ck, by omega, ?_⟩⟩, fun e1 => ?_⟩⟩⟩⟩⟩
    · rw [if_neg (x_no0 e).1, if_neg (x_no0 e).2] at h
      exact h
    · rw [if_neg e0, if_pos (x01 e e1 e0)] at h
      rw [hr.2.2.1.2.2.2.2.1.2 k (by omega)]
      exact h
    · rw [if_pos e0] at h
      rw [hr.2.2.1.2.2.2.2.1.1 k (by omega), lN_i]
      exact h
    · rw [if_neg (x_no1 e1).1, if_neg (x_no1 e1).2] at h
      exact h
end AS
