/-! each call of the law: the class answers V, then the reference answers V, and the state between calls stands again -/
section BT
variable {I I' : HI} {J J' : HJ} {R R' : HR} {G : SP} {D : Nat → Nat} {N : Nat → List Nat} {inp : Nat → Nat} {m : Nat} {B : Nat → Nat} {fk fp : Int32}
theorem CTS_I (h : CTS I R G N inp m B fk fp) (hf : ∀ a, a < 44 → ¬ a = 40 → I' a = I a) (hr : frK R R') : CTS I' R' G N inp m B fk fp := by
  obtain ⟨hq, ⟨p, p', h5, h6, hp⟩, h16, h01, hb, hk, hp4⟩ := h
  have hq' := cQ_K hr hq
  refine ⟨⟨hr.1, ?_, mR_I (fun a h1 h2 h3 => hf a (by omega) h3) hq'.2.2⟩, ⟨p, p', (hr.2 0 5 (by decide)).trans h5, (hr.2 0 6 (by decide)).trans h6, hp⟩, ?_, ?_, ?_, ?_, ?_⟩
  · obtain ⟨q, q1, q2, q3⟩ := hq'.2.1
    refine ⟨q, q1, q2, pR_I (fun a h1 h2 => hf a ?_ ?_) q3⟩ <;> rcases q2 with rfl | rfl <;> omega
  · rw [hf 16 (by decide) (by decide)]; exact h16
  · rw [hf 0 (by decide) (by decide)]; exact h01
  · rw [hf 1 (by decide) (by decide)]; exact hb
  · rw [hf 0 (by decide) (by decide)]; exact hk
  · rw [hf 0 (by decide) (by decide)]; exact hp4
theorem MT_I (hA : AB G D N inp m B) (h : MT I J R G inp m B fk fp) (hf : ∀ a, 79 < a → I' a = I a) (hs : Stat R') : MT I' J R' G inp m B fk fp := by
  obtain ⟨hq, hJ, h2, hb, hk, hp, hw⟩ := h
  have hq' := rQ_N (I' := I') hA.1 (fun a _ h1 => hf a (by omega)) (fun r _ => ⟨by rw [hf 84 (by decide)], by rw [hf 85 (by decide)]⟩) (fun i _ => ⟨by rw [hf 86 (by decide)], by rw [hf 87 (by decide)], by rw [hf 88 (by decide)]⟩) (fun k _ => by rw [hf 80 (by decide)]) hq
  refine ⟨⟨hs, hq'.2⟩, hJ, ?_, ?_, ?_, ?_, fewI_I (by rw [hf 80 (by decide)]) (hf 118 (by decide)) (hf 119 (by decide)) hw⟩
  · rw [hf 80 (by decide)]; exact h2
  · rw [hf 81 (by decide)]; exact hb
  · rw [hf 80 (by decide)]; exact hk
  · rw [hf 80 (by decide)]; exact hp
theorem MT_A (h : MT I J R G inp m B fk fp) (hf : frA I I' J J') : MT I' J' R G inp m B fk fp := by
  obtain ⟨hq, hJ, h2, hb, hk, hp, hw⟩ := h
  refine ⟨rQ_fr hf hq, ?_, ?_, ?_, ?_, ?_, fewI_I (hf.2.1 73 (by decide)) (hf.1 118 (by decide) (by decide)) (hf.1 119 (by decide) (by decide)) hw⟩
  · rw [hf.2.2.2 91 (by decide)]; exact hJ
  · rw [hf.2.1 2 (by decide)]; exact h2
  · rw [hf.1 81 (by decide) (by decide)]; exact hb
  · rw [hf.2.1 11 (by decide)]; exact hk
  · rw [hf.2.1 12 (by decide)]; exact hp
theorem MT_B (h : MT I J R G inp m B fk fp) (hq : rQ I' J' R G (theRun G inp)) (hf : frB I I' J J') (h91 : J' 91 = J 91) : MT I' J' R G inp m B fk fp := by
  obtain ⟨_, hJ, h2, hb, hk, hp, hw⟩ := h
  refine ⟨hq, ?_, ?_, ?_, ?_, ?_, fewI_I (hf.2.1 73 (by decide) (by decide)) (hf.1 118 (by decide) (by decide)) (hf.1 119 (by decide) (by decide)) hw⟩
  · rw [h91]; exact hJ
  · rw [hf.2.1 2 (by decide) (by decide)]; exact h2
  · rw [hf.1 81 (by decide) (by decide)]; exact hb
  · rw [hf.2.1 11 (by decide) (by decide)]; exact hk
  · rw [hf.2.1 12 (by decide) (by decide)]; exact hp
theorem MT_F (h : MT I J R G inp m B fk fp) (hf : frF I I') (hw : fewI I') : MT I' J R G inp m B fk fp := by
  obtain ⟨hq, hJ, h2, hb, hk, hp, _⟩ := h
  refine ⟨rQ_F hf hq, hJ, ?_, ?_, ?_, ?_, hw⟩
  · rw [hf.2.1 2 (by decide) (by decide)]; exact h2
  · rw [hf.1 81 (by decide) (by decide)]; exact hb
  · rw [hf.2.1 11 (by decide) (by decide)]; exact hk
  · rw [hf.2.1 12 (by decide) (by decide)]; exact hp
theorem frA_z : frA I (up I 80 0 0) J J := ⟨fun a h _ => up_ne _ _ _ _ h, fun k h => up_nk h, up_s, fun _ _ => rfl⟩
theorem frC_z : frC I I := ⟨fun _ _ _ => rfl, fun _ _ => rfl⟩
def TOP (I : HI) (J : HJ) (R : HR) : Prop := ∃ G D N inp m B fk fp, AB G D N inp m B ∧ CTS I R G N inp m B fk fp ∧ MT I J R G inp m B fk fp
theorem TOP.stat (h : TOP I J R) : Stat R := by
  obtain ⟨G, D, N, inp, m, B, fk, fp, _, hc, _⟩ := h
  exact hc.1.1
def asks (M1 M2 : MI) (xs : List Value) (I : HI) (J : HJ) (R : HR) : Prop := am_W 64 M1 (.ref 0 :: xs) I J R (fun r I1 J1 R1 => ∃ V : Int32, r = some (.int V) ∧ Stat R1 ∧ am_g R1 = am_g R ∧ am_W 64 M2 (.ref 80 :: xs) I1 J1 R1 (fun r2 I2 J2 R2 => r2 = some (.int V) ∧ am_g R2 = am_g R ∧ TOP I2 J2 R2))
def cWay (V : Int32) (I : HI) (J : HJ) (R : HR) : PQ := fun r I' J' R' => r = some (.int V) ∧ J' = J ∧ am_g R' = am_g R ∧ frC I I' ∧ frK R R'
def mWay (V : Int32) (I : HI) (R : HR) (T : HI → HJ → Prop) : PQ := fun r I' J' R' => r = some (.int V) ∧ R' = R ∧ (∀ a, a < 80 → I' a = I a) ∧ T I' J'
theorem ask_go {M1 M2 : MI} {xs : List Value} {V : Int32} (hA : AB G D N inp m B) (hc : CTS I R G N inp m B fk fp) (hm : MT I J R G inp m B fk fp) (h1 : am_W 64 M1 (.ref 0 :: xs) I J R (cWay V I J R))
    (h2 : ∀ I1 R1, CTS I1 R1 G N inp m B fk fp → MT I1 J R1 G inp m B fk fp → am_W 64 M2 (.ref 80 :: xs) I1 J R1 (mWay V I1 R1 (fun I' J' => MT I' J' R1 G inp m B fk fp))) : asks M1 M2 xs I J R := by
  refine am_W_mono 64 ?_ h1
  intro r I1 J1 R1 ⟨e1, e2, e3, e4, e5⟩
  subst e2
  have hc1 := CTS_I hc e4.1 e5
  have hm1 := MT_I hA hm e4.2 e5.1
  refine ⟨V, e1, e5.1, e3, am_W_mono 64 ?_ (h2 I1 R1 hc1 hm1)⟩
  intro r2 I2 J2 R2 ⟨g1, g2, g3, g4⟩
  subst g2
  exact ⟨g1, e3, G, D, N, inp, m, B, fk, fp, hA, CTS_I hc1 (fun a h _ => g3 a (by omega)) (frK_rf e5.1), g4⟩
theorem cw_p {M : MI} {as : List Value} {V : Int32} (hs : Stat R) (h : Wp fi 64 M as I J R (fun x => x = V)) : am_W 64 M as I J R (cWay V I J R) := by
  refine am_W_mono 64 ?_ h
  intro r I1 J1 R1 ⟨x, e1, e2, e3, e4, e5⟩
  subst e2 e3 e4 e5
  exact ⟨e1, rfl, rfl, frC_z, frK_rf hs⟩
theorem cw_c {M : MI} {as : List Value} {V : Int32} (hs : Stat R) (h : Wc fi 64 M as I J R (fun x I' => x = V ∧ frC I I')) : am_W 64 M as I J R (cWay V I J R) := by
  refine am_W_mono 64 ?_ h
  intro r I1 J1 R1 ⟨x, e1, e3, e4, e5, e6⟩
  subst e3 e4 e5
  exact ⟨e1, rfl, rfl, e6, frK_rf hs⟩
theorem cw_r {M : MI} {as : List Value} {V : Int32} (h : Wr fi 64 M as I J R (fun x I' R' => x = V ∧ frC I I' ∧ frK R R')) : am_W 64 M as I J R (cWay V I J R) := by
  refine am_W_mono 64 ?_ h
  intro r I1 J1 R1 ⟨x, e1, e3, e4, e5, e6, e7, e8⟩
  subst e3 e6
  exact ⟨e1, rfl, e5, e7, e8⟩
theorem mw_c {M : MI} {as : List Value} {V : Int32} (hm : MT I J R G inp m B fk fp) (h : Wc fi 64 M as I J R (fun x I' => x = V ∧ frA I I' J J)) : am_W 64 M as I J R (mWay V I R (fun I' J' => MT I' J' R G inp m B fk fp)) := by
  refine am_W_mono 64 ?_ h
  intro r I1 J1 R1 ⟨x, e1, e3, e4, e5, e6⟩
  subst e3 e4 e5
  exact ⟨e1, rfl, fun a ha => e6.1 a (by omega) (by omega), MT_A hm e6⟩
theorem mw_d {M : MI} {as : List Value} {V : Int32} (hm : MT I J R G inp m B fk fp) (h : Wd fi 64 M as I J R (fun x I' J' => x = V ∧ frA I I' J J')) : am_W 64 M as I J R (mWay V I R (fun I' J' => MT I' J' R G inp m B fk fp)) := by
  refine am_W_mono 64 ?_ h
  intro r I1 J1 R1 ⟨x, e1, e4, e5, e6⟩
  subst e4 e5
  exact ⟨e1, rfl, fun a ha => e6.1 a (by omega) (by omega), MT_A hm e6⟩
theorem mw_b {M : MI} {as : List Value} {V : Int32} (hm : MT I J R G inp m B fk fp) (h : Wd fi 64 M as I J R (fun x I' J' => x = V ∧ rQ I' J' R G (theRun G inp) ∧ frB I I' J J' ∧ J' 91 = J 91)) : am_W 64 M as I J R (mWay V I R (fun I' J' => MT I' J' R G inp m B fk fp)) := by
  refine am_W_mono 64 ?_ h
  intro r I1 J1 R1 ⟨x, e1, e4, e5, e6, e7, e8⟩
  subst e4 e5
  exact ⟨e1, rfl, fun a ha => e7.1 a (by omega) (by omega), MT_B hm e6 e7 e8⟩
theorem mw_f {M : MI} {as : List Value} {V : Int32} (hm : MT I J R G inp m B fk fp) (h : Wc fi 64 M as I J R (fun x I' => x = V ∧ frF I I' ∧ fewI I')) : am_W 64 M as I J R (mWay V I R (fun I' J' => MT I' J' R G inp m B fk fp)) := by
  refine am_W_mono 64 ?_ h
  intro r I1 J1 R1 ⟨x, e1, e3, e4, e5, e6, e7⟩
  subst e3 e4 e5
  exact ⟨e1, rfl, fun a ha => e6.1 a (by omega) (by omega), MT_F hm e6 e7⟩
end BT
