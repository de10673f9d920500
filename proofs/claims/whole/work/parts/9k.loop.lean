/-! the law's case 'code', and its loop -/
def gUp (R : HR) : HR := up R 1001 0 (some (am_g R + 1))
theorem gUp_g {R : HR} : am_g (gUp R) = am_g R + 1 := by
  simp only [gUp, am_g]
  rw [up_s]
  rfl
theorem gUp_ne {R : HR} {a j : Nat} (h : a < 1001) : gUp R a j = R a j := by
  simp only [gUp]
  rw [up_na (by omega)]
theorem Stat_g {R : HR} (hs : Stat R) : Stat (gUp R) := by
  refine ⟨by rw [gUp_ne (by decide)]; exact hs.1, List.all_eq_true.mpr fun q hq => ?_⟩
  have h0 : stab.all (fun q => decide (q.1 < 1001)) = true := by decide +kernel
  have h1 := List.all_eq_true.mp hs.2 q hq
  have h2 := List.all_eq_true.mp h0 q hq
  rw [decide_eq_true_eq] at h1 h2 ⊢
  rw [gUp_ne h2]
  exact h1
section CG
variable {I I' : HI} {J J' : HJ} {R R' : HR} {G : SP} {D : Nat → Nat} {N : Nat → List Nat} {inp : Nat → Nat} {m : Nat} {B : Nat → Nat} {fk fp : Int32}
theorem CTS_g (h : CTS I R G N inp m B fk fp) : CTS I (gUp R) G N inp m B fk fp := by
  obtain ⟨hq, ⟨p, p', h5, h6, hp⟩, h16⟩ := h
  exact ⟨cQ_R (Stat_g hq.1) (gUp_ne (by decide)) hq, ⟨p, p', (gUp_ne (by decide)).trans h5, (gUp_ne (by decide)).trans h6, hp⟩, h16⟩
theorem MT_g (h : MT I J R G inp m B fk fp) : MT I J (gUp R) G inp m B fk fp := by
  obtain ⟨hq, h1⟩ := h
  exact ⟨⟨Stat_g hq.1, hq.2⟩, h1⟩
/-- whatever was thrown -/
theorem MT_Z (hA : AB G D N inp m B) (h : MT I J R G inp m B fk fp) (h1 : ∀ a, ¬ a = 80 → I' a = I a) (h2 : ∀ k, ¬ k = 0 → I' 80 k = I 80 k) : MT I' J R G inp m B fk fp := by
  obtain ⟨hq, hJ, e2, hb, hk, hp, hw⟩ := h
  have hq' := rQ_N (I' := I') hA.1 (fun a h3 _ => h1 a h3) (fun r _ => ⟨by rw [h1 84 (by decide)], by rw [h1 85 (by decide)]⟩) (fun i _ => ⟨by rw [h1 86 (by decide)], by rw [h1 87 (by decide)], by rw [h1 88 (by decide)]⟩) (fun k hk => h2 k (by omega)) hq
  refine ⟨hq', hJ, ?_, ?_, ?_, ?_, fewI_I (h2 73 (by decide)) (h1 118 (by decide)) (h1 119 (by decide)) hw⟩
  · rw [h2 2 (by decide)]; exact e2
  · rw [h1 81 (by decide)]; exact hb
  · rw [h2 11 (by decide)]; exact hk
  · rw [h2 12 (by decide)]; exact hp
theorem MT_J (hA : AB G D N inp m B) (h : MT I J R G inp m B fk fp) (hJ : ∀ a, a < 121 → J' a = J a) : MT I J' R G inp m B fk fp := by
  have h1 := MT_A h frA_z
  have h2 : MT (up I 80 0 0) J' R G inp m B fk fp := by
    obtain ⟨hq, k1, k2⟩ := h1
    refine ⟨?_, fun j hj => by rw [hJ 91 (by decide)]; exact k1 j hj, k2⟩
    obtain ⟨q1, q2, q3, q4⟩ := hq
    refine ⟨q1, q2, ?_, q4⟩
    simp only [qM, rL] at q3 ⊢
    simp only [hJ 93 (by decide), hJ 94 (by decide), hJ 95 (by decide), hJ 99 (by decide), hJ 101 (by decide), hJ 103 (by decide), hJ 105 (by decide)]
    exact q3
  exact MT_Z hA h2 (fun a ha => (up_ne _ _ _ _ ha).symm) (fun k hk => (up_nk hk).symm)
theorem m_code1 {d : Nat} {x1 x2 : Int32} {T : SP} {Q : Int32 → HI → Prop} (hr : rQ I J R G T) (hx : x1 < 0 ∨ ¬ x1 < nI (G 3 0)) (h : Q 0 (up (up I 80 0 0) 80 0 1)) : Wc fi (d + 1) M_X12_code [.ref 80, .int x1, .int x2] I J R Q := by
  refine e_X12_code hr.1 ?_
  rw [hr.2.1.1]
  refine ⟨fun _ => h, fun z => ⟨fun z1 => ?_, fun _ => h⟩⟩
  rcases hx with hx | hx
  · exact absurd hx z
  · exact absurd z1 hx
theorem nI_lt_i {a b : Nat} (ha : a < 2 ^ 31) (hb : b < 2 ^ 31) : nI a < nI b ↔ a < b := by
  rw [Int32.lt_iff_toInt_lt, nI_toInt ha, nI_toInt hb]
  omega
theorem nI_nn {a : Nat} (ha : a < 2 ^ 31) : ¬ nI a < 0 := by
  rw [Int32.lt_iff_toInt_lt, nI_toInt ha]
  simp
theorem m_code2 {d k : Nat} {x1 x2 : Int32} {T : SP} {Q : Int32 → HI → Prop} (hw : wfG G D N) (hr : rQ I J R G T) (hk : x1 = nI k) (hk2 : k < G 3 0) (hx : x2 < 0 ∨ ¬ x2 ≤ 2) (h : Q 0 (up (up I 80 0 0) 80 0 2)) : Wc fi (d + 1) M_X12_code [.ref 80, .int x1, .int x2] I J R Q := by
  have h9 : G 3 0 ≤ 900 := hw.2.2.2.2.1
  refine e_X12_code hr.1 ?_
  rw [hr.2.1.1, hk]
  refine ⟨fun z => absurd z (nI_nn (by omega)), fun _ => ⟨fun _ => ⟨fun _ => h, fun z => ⟨fun z1 => ?_, fun _ => h⟩⟩, fun z => absurd ((nI_lt_i (by omega) (by omega)).mpr hk2) z⟩⟩
  rcases hx with hx | hx
  · exact absurd hx z
  · exact absurd z1 hx
theorem m_code0 {d k c : Nat} {x1 x2 : Int32} {T : SP} {Q : Int32 → HI → Prop} (hw : wfG G D N) (hr : rQ I J R G T) (hk : x1 = nI k) (hk2 : k < G 3 0) (hc : x2 = nI c) (hc2 : c ≤ 2) (h : Q (nI (G c k)) (up I 80 0 0)) : Wc fi (d + 1) M_X12_code [.ref 80, .int x1, .int x2] I J R Q := by
  have h9 : G 3 0 ≤ 900 := hw.2.2.2.2.1
  have hcode := hr.2.1.2.2.2.2.2.2.1 k hk2
  refine e_X12_code hr.1 ?_
  rw [hr.2.1.1, hk]
  refine ⟨fun z => absurd z (nI_nn (by omega)), fun _ => ⟨fun _ => ?_, fun z => absurd ((nI_lt_i (by omega) (by omega)).mpr hk2) z⟩⟩
  obtain rfl | rfl | rfl : c = 0 ∨ c = 1 ∨ c = 2 := by omega
  · rw [hc]
    exact ⟨fun z => absurd z (by decide), fun _ => ⟨fun _ => ⟨fun z => absurd rfl z, fun _ => ⟨k, rfl, by omega, by rw [hcode.1]; exact h⟩⟩, fun z => absurd (by decide) z⟩⟩
  · rw [hc]
    exact ⟨fun z => absurd z (by decide), fun _ => ⟨fun _ => ⟨fun _ => ⟨fun z => absurd rfl z, fun _ => ⟨k, rfl, by omega, by rw [hcode.2.1]; exact h⟩⟩, fun z => absurd z (by decide)⟩, fun z => absurd (by decide) z⟩⟩
  · rw [hc]
    exact ⟨fun z => absurd z (by decide), fun _ => ⟨fun _ => ⟨fun _ => ⟨fun _ => ⟨k, rfl, by omega, by rw [hcode.2.2]; exact h⟩, fun z => absurd z (by decide)⟩, fun z => absurd z (by decide)⟩, fun z => absurd (by decide) z⟩⟩
end CG
