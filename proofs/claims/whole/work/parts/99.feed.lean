/-! feed -/
def wb (x : Int32) (k : Nat) : Nat := x.toBitVec.toNat / 2 ^ (24 - 8 * k) % 256
def fdX (x1 x2 x3 x4 x5 : Int32) (i : Nat) : Int32 := if i = 0 then x1 else if i = 1 then x2 else if i = 2 then x3 else if i = 3 then x4 else x5
def fdB (B : Nat → Nat) (m : Nat) (X : Nat → Int32) (c : Nat) : Nat → Nat := fun j => if m ≤ j ∧ j < m + c then wb (X ((j - m) / 4)) ((j - m) % 4) else B j
theorem fdB_lt {B : Nat → Nat} {m c : Nat} {X : Nat → Int32} (h : ∀ j, B j < 256) : ∀ j, fdB B m X c j < 256 := by
  intro j
  simp only [fdB, wb]
  split
  · exact Nat.mod_lt _ (by decide)
  · exact h j
theorem i8_mod (y : Int32) : y.toInt8.toInt32 = bI (y.toBitVec.toNat % 256) := by
  simp only [bI]
  congr 1
  apply Int8.toInt_inj.mp
  rw [Int32.toInt_toInt8, Int32.toInt_toInt8, nI_toInt (by omega)]
  have h : y.toInt = if 2 * y.toBitVec.toNat < 2 ^ 32 then (y.toBitVec.toNat : Int) else (y.toBitVec.toNat : Int) - (2 ^ 32 : Nat) := BitVec.toInt_eq_toNat_cond y.toBitVec
  rw [h]
  simp only [Int.bmod]
  split <;> omega
theorem wb_c (x : Int32) {k s : Nat} (hk : k < 4) (hs : s = 24 - 8 * k) : ((Int32.toUInt32 x >>> (Int32.toUInt32 (nI s) &&& Int32.toUInt32 31)).toInt32 : Int32).toInt8.toInt32 = bI (wb x k) := by
  rw [i8_mod, pk_ushr x (nI s) s ?_]
  · simp only [wb]
    rw [hs]
  · have : k = 0 ∨ k = 1 ∨ k = 2 ∨ k = 3 := by omega
    rcases this with rfl | rfl | rfl | rfl <;> subst hs <;> decide
theorem wb_m (x : Int32) {k : Nat} (hk : k < 4) : (x >>> (nI (24 - 8 * k) &&& 31)) &&& 255 = nI (wb x k) := by
  rw [pk_and (x >>> (nI (24 - 8 * k) &&& 31)) 8 (by decide)]
  congr 1
  have h1 := pk_shr x (nI (24 - 8 * k) &&& 31) (24 - 8 * k) (by
    have : k = 0 ∨ k = 1 ∨ k = 2 ∨ k = 3 := by omega
    rcases this with rfl | rfl | rfl | rfl <;> decide)
  have h : x.toInt = if 2 * x.toBitVec.toNat < 2 ^ 32 then (x.toBitVec.toNat : Int) else (x.toBitVec.toNat : Int) - (2 ^ 32 : Nat) := BitVec.toInt_eq_toNat_cond x.toBitVec
  have hy : (x >>> (nI (24 - 8 * k) &&& 31)).toInt = if 2 * (x >>> (nI (24 - 8 * k) &&& 31)).toBitVec.toNat < 2 ^ 32 then ((x >>> (nI (24 - 8 * k) &&& 31)).toBitVec.toNat : Int) else ((x >>> (nI (24 - 8 * k) &&& 31)).toBitVec.toNat : Int) - (2 ^ 32 : Nat) := BitVec.toInt_eq_toNat_cond _
  rw [h1, Int.shiftRight_eq_div_pow] at hy
  have hlt : x.toBitVec.toNat < 2 ^ 32 := x.toBitVec.isLt
  have hlt2 : (x >>> (nI (24 - 8 * k) &&& 31)).toBitVec.toNat < 2 ^ 32 := (x >>> (nI (24 - 8 * k) &&& 31)).toBitVec.isLt
  rw [h] at hy
  simp only [wb]
  generalize (x >>> (nI (24 - 8 * k) &&& 31)).toBitVec.toNat = a at hy hlt2
  generalize x.toBitVec.toNat = b at hy hlt
  have : k = 0 ∨ k = 1 ∨ k = 2 ∨ k = 3 := by omega
  rcases this with rfl | rfl | rfl | rfl <;> simp only [Nat.reducePow, Nat.reduceMul, Nat.reduceSub] at hy ⊢ <;> (split at hy <;> split at hy <;> omega)
section TF
variable {d : Nat} {I : HI} {J : HJ} {R : HR} {B : Nat → Nat} {m : Nat} {X : Nat → Int32} {x1 x2 x3 x4 x5 : Int32}
theorem fdB_s {c j : Nat} : fdB B m X (c + 1) j = if j = m + c then wb (X (c / 4)) (c % 4) else fdB B m X c j := by
  simp only [fdB]
  by_cases h : j = m + c
  · rw [if_pos h, if_pos (by omega), show j - m = c by omega]
  · rw [if_neg h]
    by_cases h2 : m ≤ j ∧ j < m + c
    · rw [if_pos h2, if_pos (by omega)]
    · rw [if_neg h2, if_neg (by omega)]
theorem t_app {i : Nat} {Q : Unit → HI → Prop} (hs : Stat R) (hm : m + 4 * i + 4 ≤ 900) (h1 : I 0 1 = nI (m + 4 * i)) (hb : ∀ j, j < m + 4 * i → I 1 j = bI (fdB B m X (4 * i) j)) (h : ∀ I', I' 0 1 = nI (m + 4 * (i + 1)) → (∀ j, j < m + 4 * (i + 1) → I' 1 j = bI (fdB B m X (4 * (i + 1)) j)) → (∀ a, ¬ a = 0 → ¬ a = 1 → I' a = I a) → (∀ k, ¬ k = 1 → I' 0 k = I 0 k) → Q () I') : Wc fv (d + 1) M_X11_appendNumber [.ref 0, .int (X i)] I J R Q := by
  refine ⟨Nat.le_of_ble_eq_true rfl, fun K hK => ?_⟩
  have step : ∀ (k : Nat) (I1 : HI) (x : Int32), k < 4 → x = nI (24 - 8 * k) → I1 0 1 = nI (m + (4 * i + k)) → (∀ j, j < m + (4 * i + k) → I1 1 j = bI (fdB B m X (4 * i + k) j)) → (∀ a, ¬ a = 0 → ¬ a = 1 → I1 a = I a) → (∀ k, ¬ k = 1 → I1 0 k = I 0 k) → (∀ I2, I2 0 1 = nI (m + (4 * i + (k + 1))) → (∀ j, j < m + (4 * i + (k + 1)) → I2 1 j = bI (fdB B m X (4 * i + (k + 1)) j)) → (∀ a, ¬ a = 0 → ¬ a = 1 → I2 a = I a) → (∀ k, ¬ k = 1 → I2 0 k = I 0 k) → K 3 [(0, .ref 0), (1, .int (X i)), (2, .int (x + (-8)))] [] I2 J R) → K 3 [(0, .ref 0), (1, .int (X i)), (2, .int x)] [] I1 J R := by
    intro k I1 x hk hx k1 k2 k3 k4 hq
    subst hx
    refine g_X11_appendNumber_3 hK hs ⟨fun w => absurd w (nI_pos (by omega)), fun _ => ?_⟩
    rw [k1]
    refine ⟨fun w => absurd w (nI_ge (b := 900) (by omega) (by decide)), fun _ => ⟨m + (4 * i + k), rfl, by omega, ?_⟩⟩
    rw [wb_c (X i) hk rfl, nI_1]
    refine hq _ (by rw [up_s]; rfl) (fun j hj => ?_) (fun a a0 a1 => by rw [up_ne _ _ _ _ a0, up_ne _ _ _ _ a1]; exact k3 a a0 a1) (fun k hk => by rw [up_nk hk, up_na (by decide)]; exact k4 k hk)
    · rw [up_na (by decide), show 4 * i + (k + 1) = 4 * i + k + 1 by omega, fdB_s]
      by_cases hjj : j = m + (4 * i + k)
      · rw [if_pos hjj, hjj, up_s, show (4 * i + k) / 4 = i by omega, show (4 * i + k) % 4 = k by omega]
      · rw [if_neg hjj, up_nk hjj]
        exact k2 j (by omega)
  refine g_X11_appendNumber_0 hK hs ?_
  refine step 0 I _ (by omega) rfl h1 hb (fun _ _ _ => rfl) (fun _ _ => rfl) (fun I2 a1 a2 a3 a4 => ?_)
  refine step 1 I2 _ (by omega) (by decide) a1 a2 a3 a4 (fun I3 b1 b2 b3 b4 => ?_)
  refine step 2 I3 _ (by omega) (by decide) b1 b2 b3 b4 (fun I4 c1 c2 c3 c4 => ?_)
  refine step 3 I4 _ (by omega) (by decide) c1 c2 c3 c4 (fun I5 e1 e2 e3 e4 => ?_)
  refine g_X11_appendNumber_3 hK hs ⟨fun _ => h I5 e1 e2 e3 e4, fun w => absurd (by decide) w⟩
theorem c_feed {G : SP} {D : Nat → Nat} {N : Nat → List Nat} {inp : Nat → Nat} {fk fp : Int32} {Q : Int32 → HI → Prop} (hA : AB G D N inp m B) (hc : CTS I R G N inp m B fk fp) (h0 : 880 < m → Q (-1) I) (h1 : m ≤ 880 → ∀ I', CTS I' R G N inp (m + 20) (fdB B m (fdX x1 x2 x3 x4 x5) 20) fk fp → (∀ a, 79 < a → I' a = I a) → Q (nI (m + 20)) I') : Wc fi (d + 2) M_X11_feed [.ref 0, .int x1, .int x2, .int x3, .int x4, .int x5] I J R Q := by
  obtain ⟨hw, hib, hm9, hB⟩ := hA
  obtain ⟨hq, hpp, hin, hby, hbs, hfk, hfp⟩ := id hc
  have hs := hq.1
  refine e_X11_feed hs ?_
  rw [hby, show nI m + 20 = nI (m + 20) from nI_add m 20]
  have cl : (nI (m + 20) ≤ (900 : Int32)) ↔ m ≤ 880 := by rw [show (900 : Int32) = nI 900 from rfl, nI_leI (by omega) (by decide)]; omega
  rw [cl]
  refine ⟨fun z => ?_, fun z => h0 (by omega)⟩
  refine t_app (i := 0) (X := fdX x1 x2 x3 x4 x5) hs (by omega) hby (fun j hj => by rw [hbs j (by omega)]; simp only [fdB]; rw [if_neg (by omega)]) (fun I1 a1 a2 a3 a4 => ?_)
  refine t_app (i := 1) (X := fdX x1 x2 x3 x4 x5) hs (by omega) a1 a2 (fun I2 b1 b2 b3 b4 => ?_)
  refine t_app (i := 2) (X := fdX x1 x2 x3 x4 x5) hs (by omega) b1 b2 (fun I3 c1 c2 c3 c4 => ?_)
  refine t_app (i := 3) (X := fdX x1 x2 x3 x4 x5) hs (by omega) c1 c2 (fun I4 e1 e2 e3 e4 => ?_)
  refine t_app (i := 4) (X := fdX x1 x2 x3 x4 x5) hs (by omega) e1 e2 (fun I5 f1 f2 f3 f4 => ?_)
  rw [f1]
  have fr : ∀ a, ¬ a = 0 → ¬ a = 1 → I5 a = I a := fun a h0 h1 => (f3 a h0 h1).trans ((e3 a h0 h1).trans ((c3 a h0 h1).trans ((b3 a h0 h1).trans (a3 a h0 h1))))
  have f0 : ∀ k, ¬ k = 1 → I5 0 k = I 0 k := fun k hk => (f4 k hk).trans ((e4 k hk).trans ((c4 k hk).trans ((b4 k hk).trans (a4 k hk))))
  refine h1 z I5 ⟨?_, hpp, fun j hj => by rw [fr 16 (by decide) (by decide)]; exact hin j hj, f1, f2, by rw [f0 3 (by decide)]; exact hfk, by rw [f0 4 (by decide)]; exact hfp⟩ (fun a ha => fr a (by omega) (by omega))
  obtain ⟨_, ⟨p, hp1, hp2, hp3⟩, hmm⟩ := hq
  refine ⟨hs, ⟨p, hp1, hp2, pR_I (fun a b1 b2 => fr a (by rcases hp2 with rfl | rfl <;> omega) (by rcases hp2 with rfl | rfl <;> omega)) hp3⟩, mR_I (fun a b1 b2 _ => fr a (by omega) (by omega)) hmm⟩
theorem m_feed {G : SP} {D : Nat → Nat} {N : Nat → List Nat} {inp : Nat → Nat} {fk fp : Int32} {Q : Int32 → HI → Prop} (hA : AB G D N inp m B) (hc : MT I J R G inp m B fk fp) (h0 : 880 < m → Q (-1) (up I 80 0 0)) (h1 : m ≤ 880 → ∀ I', MT I' J R G inp (m + 20) (fdB B m (fdX x1 x2 x3 x4 x5) 20) fk fp → (∀ a, a < 80 → I' a = I a) → I' 80 0 = 0 → Q (nI (m + 20)) I') : Wc fi (d + 1) M_X12_feed [.ref 80, .int x1, .int x2, .int x3, .int x4, .int x5] I J R Q := by
  refine ⟨Nat.le_of_ble_eq_true rfl, fun K hK => ?_⟩
  obtain ⟨hw, hib, hm9, hB⟩ := hA
  obtain ⟨hq, hJ, hby, hbs, hfk, hfp, hfew⟩ := id hc
  have hs := hq.1
  refine g_X12_feed_0 hK hs ?_
  rw [hby]
  have cl : (nI m ≤ (880 : Int32)) ↔ m ≤ 880 := nI_leI (b := 880) (by omega) (by decide)
  rw [cl]
  refine ⟨fun z => ?_, fun z => h0 (by omega)⟩
  have loop : ∀ (u c : Nat) (I1 : HI), c + u = 20 → (∀ j, j < m + c → I1 81 j = nI (fdB B m (fdX x1 x2 x3 x4 x5) c j)) → (∀ a, ¬ a = 80 → ¬ a = 81 → I1 a = I a) → (∀ k, ¬ k = 0 → I1 80 k = I 80 k) → I1 80 0 = 0 → K 20 [(0, .ref 80), (1, .int x1), (2, .int x2), (3, .int x3), (4, .int x4), (5, .int x5), (6, .int (nI c))] [] I1 J R := by
    intro u
    induction u with
    | zero =>
      intro c I1 hc0 k1 k2 k3 k4
      have : c = 20 := by omega
      subst this
      refine g_X12_feed_20 hK hs ⟨fun _ => ?_, fun w => absurd (by decide) w⟩
      rw [k3 2 (by decide), hby, show nI m + 20 = nI (m + 20) from nI_add m 20]
      have fr : ∀ a, ¬ a = 80 → ¬ a = 81 → up I1 80 2 (nI (m + 20)) a = I a := fun a h0 h1 => (up_ne _ _ _ _ h0).trans (k2 a h0 h1)
      have f80 : ∀ k, ¬ k = 0 → ¬ k = 2 → up I1 80 2 (nI (m + 20)) 80 k = I 80 k := fun k h0 h2 => (up_nk h2).trans (k3 k h0)
      refine h1 z _ ⟨?_, hJ, up_s, fun j hj => by rw [up_na (by decide)]; exact k1 j hj, by rw [f80 11 (by decide) (by decide)]; exact hfk, by rw [f80 12 (by decide) (by decide)]; exact hfp, fewI_I (f80 73 (by decide) (by decide)) (fr 118 (by decide) (by decide)) (fr 119 (by decide) (by decide)) hfew⟩ (fun a ha => fr a (by omega) (by omega)) (by rw [up_nk (by decide)]; exact k4)
      exact rQ_N hw (fun a a1 a2 => fr a a1 (by omega)) (fun r _ => by rw [fr 84 (by decide) (by decide), fr 85 (by decide) (by decide)]; exact ⟨rfl, rfl⟩) (fun i _ => by rw [fr 86 (by decide) (by decide), fr 87 (by decide) (by decide), fr 88 (by decide) (by decide)]; exact ⟨rfl, rfl, rfl⟩) (fun k hk => f80 k (by omega) (by omega)) hq
    | succ u ih =>
      intro c I1 hc0 k1 k2 k3 k4
      have go : ∀ x : Int32, x = fdX x1 x2 x3 x4 x5 (c / 4) → K 73 [(0, .ref 80), (1, .int x1), (2, .int x2), (3, .int x3), (4, .int x4), (5, .int x5), (6, .int (nI c))] [.int x] I1 J R := by
        intro x hx
        subst hx
        refine g_X12_feed_73 hK hs ?_
        rw [k3 2 (by decide), hby, nI_add, nI_1]
        refine ⟨m + c, rfl, by omega, ?_⟩
        have e1 : nI c - nI c / 4 * 4 = nI (c % 4) := pk_rem (d := 4) (by omega) (by decide) (by decide)
        have e2 : (24 : Int32) - 8 * nI (c % 4) = nI (24 - 8 * (c % 4)) := by
          rw [show (8 : Int32) * nI (c % 4) = nI (8 * (c % 4)) from pk_mul 8 _]
          exact pk_sub (a := 24) (by omega)
        rw [e1, e2, wb_m _ (by omega)]
        refine ih (c + 1) _ (by omega) (fun j hj => ?_) (fun a a0 a1 => by rw [up_ne _ _ _ _ a1]; exact k2 a a0 a1) (fun k hk => by rw [up_na (by decide)]; exact k3 k hk) (by rw [up_na (by decide)]; exact k4)
        rw [fdB_s]
        by_cases hjj : j = m + c
        · rw [if_pos hjj, hjj, up_s]
        · rw [if_neg hjj, up_nk hjj]
          exact k1 j (by omega)
      refine g_X12_feed_20 hK hs ⟨fun w => absurd w (nI_ge (b := 20) (by omega) (by decide)), fun _ => ?_⟩
      have c4 : ((4 : Int32) ≤ nI c) ↔ 4 ≤ c := nI_leI (a := 4) (by decide) (by omega)
      have c8 : ((8 : Int32) ≤ nI c) ↔ 8 ≤ c := nI_leI (a := 8) (by decide) (by omega)
      have c12 : ((12 : Int32) ≤ nI c) ↔ 12 ≤ c := nI_leI (a := 12) (by decide) (by omega)
      have c16 : ((16 : Int32) ≤ nI c) ↔ 16 ≤ c := nI_leI (a := 16) (by decide) (by omega)
      rw [c4, c8, c12, c16]
      refine ⟨fun y1 => ⟨fun y2 => ⟨fun y3 => ⟨fun y4 => go _ ?_, fun y4 => go _ ?_⟩, fun y3 => go _ ?_⟩, fun y2 => go _ ?_⟩, fun y1 => go _ ?_⟩
      · simp only [fdX]; rw [if_neg (by omega), if_neg (by omega), if_neg (by omega), if_neg (by omega)]
      · simp only [fdX]; rw [if_neg (by omega), if_neg (by omega), if_neg (by omega), if_pos (by omega)]
      · simp only [fdX]; rw [if_neg (by omega), if_neg (by omega), if_pos (by omega)]
      · simp only [fdX]; rw [if_neg (by omega), if_pos (by omega)]
      · simp only [fdX]; rw [if_pos (by omega)]
  exact loop 20 0 _ (by omega) (fun j hj => by rw [up_na (by decide), hbs j (by omega)]; simp only [fdB]; rw [if_neg (by omega)]) (fun a a0 _ => up_ne _ _ _ _ a0) (fun k hk => up_nk hk) up_s
end TF
