/-! FEW: the reference's table -/
def tabF (I : HI) : Prop := (∀ l c, 1 ≤ l → l ≤ 400 → c ≤ 20 → I 118 (21 * l + c) = nI (fwN l c)) ∧ (∀ l c, 2 ≤ l → l ≤ 400 → 1 ≤ c → c ≤ 20 → I 119 (21 * l + c) = nI (splN l c))
/-- the table is not laid yet, or right -/
def fewI (I : HI) : Prop := (I 80 73 = 0 ∧ ∀ j, I 118 j = 0) ∨ (¬ I 80 73 = 0 ∧ tabF I)
/-- nothing but the table has changed -/
def frL (I I' : HI) : Prop := (∀ a, ¬ a = 80 → ¬ a = 118 → ¬ a = 119 → I' a = I a) ∧ (∀ k, ¬ k = 73 → I' 80 k = I 80 k)
theorem frL_rf {I : HI} : frL I I := ⟨fun _ _ _ _ => rfl, fun _ _ => rfl⟩
theorem frL_u {I I1 : HI} {c k : Nat} {x : Int32} (hc : c = 118 ∨ c = 119) (h : frL I I1) : frL I (up I1 c k x) := ⟨fun a a1 a2 a3 => (up_ne _ _ _ _ (by omega)).trans (h.1 a a1 a2 a3), fun j hj => (up_na (by omega)).trans (h.2 j hj)⟩
/-- rows before l, and in l the columns before c, are right; behind it 118 is empty -/
def tabP (I : HI) (l c : Nat) : Prop := (∀ l' c', 1 ≤ l' → l' ≤ 400 → c' ≤ 20 → (l' < l ∨ (l' = l ∧ c' < c)) → I 118 (21 * l' + c') = nI (fwN l' c')) ∧ (∀ l' c', 2 ≤ l' → l' ≤ 400 → 1 ≤ c' → c' ≤ 20 → (l' < l ∨ (l' = l ∧ c' < c)) → I 119 (21 * l' + c') = nI (splN l' c')) ∧ (∀ j, 21 * l + c ≤ j → I 118 j = 0)
section BW
variable {d : Nat} {I : HI} {J : HJ} {R : HR} {x1 x2 x3 x4 : Int32}
theorem at_e (l c : Nat) : (21 : Int32) * nI l + nI c = nI (21 * l + c) := by
  rw [show (21 : Int32) = nI 21 from rfl, pk_mul, nI_add]
theorem t_mat {l c : Nat} {Q : Int32 → Prop} (hs : Stat R) (h : Q (nI (21 * l + c))) : Wp fi (d + 1) M_X12_at [.int (nI l), .int (nI c)] I J R Q := by
  refine e_X12_at hs ?_
  rw [at_e]
  exact h
theorem t_laysFew {Q : Unit → HI → Prop} (hs : Stat R) (hw : fewI I) (h : ∀ I', frL I I' → ¬ I' 80 73 = 0 → tabF I' → Q () I') : Wc fv (d + 2) M_X12_laysFew [.ref 80] I J R Q := by
  refine ⟨Nat.le_of_ble_eq_true rfl, fun K hK => ?_⟩
  have rows : ∀ (m l : Nat) (I1 : HI), l + m = 401 → 1 ≤ l → frL I I1 → I1 80 73 = 1 → tabP I1 l 0 → K 15 [(0, .ref 80), (1, .int (nI l))] [] I1 J R := by
    intro m
    induction m with
    | zero =>
      intro l I1 hl h1 f1 f2 f3
      have : l = 401 := by omega
      subst this
      refine g_X12_laysFew_15 hK hs ⟨fun _ => h I1 f1 (by rw [f2]; decide) ⟨fun l c a1 a2 a3 => f3.1 l c a1 a2 a3 (Or.inl (by omega)), fun l c a1 a2 a3 a4 => f3.2.1 l c a1 a2 a3 a4 (Or.inl (by omega))⟩, fun z => absurd (by decide) z⟩
    | succ m ih =>
      intro l I1 hl h1 f1 f2 f3
      have cols : ∀ (n c : Nat) (I2 : HI), c + n = 21 → 1 ≤ c → frL I I2 → I2 80 73 = 1 → tabP I2 l c → K 41 [(0, .ref 80), (1, .int (nI l)), (2, .int (nI c))] [] I2 J R := by
        intro n
        induction n with
        | zero =>
          intro c I2 hc c1 g1 g2 g3
          have : c = 21 := by omega
          subst this
          refine g_X12_laysFew_41 hK hs ⟨fun _ => ?_, fun z => absurd (by decide) z⟩
          rw [nI_1]
          refine ih (l + 1) I2 (by omega) (by omega) g1 g2 ⟨fun l' c' a1 a2 a3 a4 => g3.1 l' c' a1 a2 a3 (by omega), fun l' c' a1 a2 a3 a4 a5 => g3.2.1 l' c' a1 a2 a3 a4 (by omega), fun j hj => g3.2.2 j (by omega)⟩
        | succ n ihc =>
          intro c I2 hc c1 g1 g2 g3
          refine g_X12_laysFew_41 hK hs ⟨fun z => absurd z (nI_nlt (a := 20) (by omega) (by omega)), fun _ => ?_⟩
          have cl : (nI l ≤ (1 : Int32)) ↔ l ≤ 1 := nI_leI (b := 1) (by omega) (by decide)
          rw [cl, nI_1]
          refine ⟨fun z => ?_, fun z => ?_⟩
          · have hl1 : l = 1 := by omega
            refine ih (l + 1) I2 (by omega) (by omega) g1 g2 ⟨fun l' c' a1 a2 a3 a4 => ?_, fun l' c' a1 a2 a3 a4 a5 => by omega, fun j hj => g3.2.2 j (by omega)⟩
            have hl2 : l' = 1 := by omega
            by_cases hcc : c' < c
            · exact g3.1 l' c' a1 a2 a3 (Or.inr ⟨by omega, hcc⟩)
            · rw [g3.2.2 (21 * l' + c') (by omega), hl2, fwN_1]
              rfl
          · have b3 := fwN_le l c
            have inner : ∀ (k j : Nat) (b : Nat) (I3 : HI), j + k = l → 1 ≤ j → frL I I3 → I3 80 73 = 1 → tabP I3 l c → b < 2 ^ 31 → ((fwN l c < b ∧ ∀ j', 1 ≤ j' → j' < j → ¬ itsN l c j' = fwN l c) ∨ (b = fwN l c ∧ ∃ j0, 1 ≤ j0 ∧ j0 < j ∧ itsN l c j0 = fwN l c ∧ (∀ j', 1 ≤ j' → j' < j0 → ¬ itsN l c j' = fwN l c) ∧ I3 119 (21 * l + c) = nI j0)) → K 59 [(0, .ref 80), (1, .int (nI l)), (2, .int (nI c)), (3, .int (nI b)), (4, .int (nI j))] [] I3 J R := by
              intro k
              induction k with
              | zero =>
                intro j b I3 hj j1 e1 e2 e3 eb e4
                have : j = l := by omega
                subst this
                refine g_X12_laysFew_59 hK hs ⟨fun _ => ?_, fun z => absurd (nI_le (Nat.le_refl _) (by omega)) z⟩
                refine t_mat hs ⟨21 * j + c, rfl, by omega, ?_⟩
                rw [nI_1]
                obtain ⟨jx, x1, x2, x3⟩ := its_ex (l := j) (c := c) c1 (by omega) (by omega)
                rcases e4 with ⟨e4, e5⟩ | ⟨e4, j0, y1, y2, y3, y4, y5⟩
                · exact absurd x3 (e5 jx x1 x2)
                · rw [e4]
                  have sp := splN_at y1 y2 y3 y4
                  refine ihc (c + 1) _ (by omega) (by omega) (frL_u (Or.inl rfl) e1) ((up_na (by decide)).trans e2) ⟨fun l' c' a1 a2 a3 a4 => ?_, fun l' c' a1 a2 a3 a4 a5 => ?_, fun q hq => ?_⟩
                  · by_cases hx : l' = j ∧ c' = c
                    · rw [hx.1, hx.2, up_s]
                    · rw [up_nk (by omega)]
                      exact e3.1 l' c' a1 a2 a3 (by omega)
                  · rw [up_na (by decide)]
                    by_cases hx : l' = j ∧ c' = c
                    · rw [hx.1, hx.2, y5, sp]
                    · exact e3.2.1 l' c' a1 a2 a3 a4 (by omega)
                  · rw [up_nk (by omega)]
                    exact e3.2.2 q (by omega)
              | succ k ihk =>
                intro j b I3 hj j1 e1 e2 e3 eb e4
                refine g_X12_laysFew_59 hK hs ⟨fun z => absurd z (nI_ge (by omega) (by omega)), fun _ => ?_⟩
                rw [pk_sub (by omega), sub1 c1]
                refine t_mat hs ⟨21 * (l - j) + (c - 1), rfl, by omega, ?_⟩
                refine t_mat hs ⟨21 * j + c, rfl, by omega, ?_⟩
                rw [e3.1 (l - j) (c - 1) (by omega) (by omega) (by omega) (by omega), e3.1 j c (by omega) (by omega) (by omega) (by omega), nI_add, nI_add, nI_1]
                have b1 := fwN_le (l - j) (c - 1)
                have b2 := fwN_le j c
                have hge := its_ge (l := l) (c := c) (j := j) c1 j1 (by omega) (by omega)
                have ce : (nI (itsN l c j) < nI b) ↔ itsN l c j < b := nI_ltI (by simp only [itsN]; omega) eb
                change (nI (itsN l c j) < nI b → Wp fi (d + 1) M_X12_at [.int (nI l), .int (nI c)] I3 J R (fun r15 => ∃ n16 : Nat, r15 = nI n16 ∧ n16 < 8421 ∧ K 59 [(0, .ref 80), (1, .int (nI l)), (2, .int (nI c)), (3, .int (nI (itsN l c j))), (4, .int (nI (j + 1)))] [] (up I3 119 n16 (nI j)) J R)) ∧ (¬ nI (itsN l c j) < nI b → _)
                rw [ce]
                refine ⟨fun z => t_mat hs ⟨21 * l + c, rfl, by omega, ?_⟩, fun z => ?_⟩
                · refine ihk (j + 1) (itsN l c j) _ (by omega) (by omega) (frL_u (Or.inr rfl) e1) ((up_na (by decide)).trans e2) ⟨fun l' c' a1 a2 a3 a4 => (up_na (by decide)).trans (e3.1 l' c' a1 a2 a3 a4), fun l' c' a1 a2 a3 a4 a5 => (up_nk (by omega)).trans (e3.2.1 l' c' a1 a2 a3 a4 a5), fun q hq => (up_na (by decide)).trans (e3.2.2 q hq)⟩ (by omega) ?_
                  rcases e4 with ⟨e4, e5⟩ | ⟨e4, _⟩
                  · by_cases he : itsN l c j = fwN l c
                    · exact Or.inr ⟨he, j, j1, by omega, he, e5, up_s⟩
                    · refine Or.inl ⟨by omega, fun j' a1 a2 => ?_⟩
                      by_cases hjj : j' = j
                      · rw [hjj]; exact he
                      · exact e5 j' a1 (by omega)
                  · omega
                · refine ihk (j + 1) b I3 (by omega) (by omega) e1 e2 e3 eb ?_
                  rcases e4 with ⟨e4, e5⟩ | ⟨e4, j0, y1, y2, y3, y4, y5⟩
                  · refine Or.inl ⟨e4, fun j' a1 a2 => ?_⟩
                    by_cases hjj : j' = j
                    · rw [hjj]; omega
                    · exact e5 j' a1 (by omega)
                  · exact Or.inr ⟨e4, j0, y1, by omega, y3, y4, y5⟩
            exact inner (l - 1) 1 2147483647 I2 (by omega) (by omega) g1 g2 g3 (by decide) (Or.inl ⟨by omega, fun j' a1 a2 => by omega⟩)
      refine g_X12_laysFew_15 hK hs ⟨fun z => absurd z (nI_nlt (a := 400) (by omega) (by omega)), fun _ => ?_⟩
      refine t_mat (c := 0) hs ⟨21 * l + 0, rfl, by omega, ?_⟩
      have hm : l * (l - 1) ≤ 400 * 400 := Nat.mul_le_mul (by omega) (by omega)
      rw [sub1 h1, pk_mul, show (2 : Int32) = nI 2 from rfl, pk_div (by omega) (by decide) (by decide), ← fwN_0 h1 (by omega)]
      refine cols 20 1 _ (by omega) (by omega) (frL_u (Or.inl rfl) f1) ((up_na (by decide)).trans f2) ⟨fun l' c' a1 a2 a3 a4 => ?_, fun l' c' a1 a2 a3 a4 a5 => (up_na (by decide)).trans (f3.2.1 l' c' a1 a2 a3 a4 (by omega)), fun q hq => (up_nk (by omega)).trans (f3.2.2 q (by omega))⟩
      by_cases hx : l' = l
      · have : c' = 0 := by omega
        rw [hx, this, up_s]
      · rw [up_nk (by omega)]
        exact f3.1 l' c' a1 a2 a3 (by omega)
  refine g_X12_laysFew_0 hK hs ⟨fun z => ?_, fun z => ?_⟩
  · rcases hw with ⟨_, hz⟩ | ⟨hw, _⟩
    · refine rows 400 1 _ (by omega) (by omega) ⟨fun a a1 _ _ => up_ne _ _ _ _ a1, fun k hk => up_nk hk⟩ up_s ⟨fun l' c' a1 a2 a3 a4 => by omega, fun l' c' a1 a2 a3 a4 a5 => by omega, fun j hj => (up_na (by decide)).trans (hz j)⟩
    · exact absurd z hw
  · rcases hw with ⟨hw, _⟩ | ⟨hw, ht⟩
    · exact absurd hw z
    · exact h I frL_rf hw ht
end BW
