/-! the law's begin: both are made, and the state between calls stands (the empty program) -/
def M_L_law : MI := (yL_law, cL_law, 7, some .boolean, RL, 601024, 7293034)
def IZ : HI := fun _ _ => 0
def JZ : HJ := fun _ _ => 0
def RZ : HR := fun a j => if a = 1000 ∧ j = 0 then some 0 else none
theorem frs_Z : frs IZ JZ RZ 0 := ⟨rfl, rfl, fun c _ h => ⟨fun _ => rfl, fun _ => rfl, fun j => if_neg (by omega)⟩⟩
theorem pW_0 (f : Nat → Nat) (w : Nat) : ∀ b, pW f 0 w b = 0
  | 0 => rfl
  | b + 1 => by simp [pW, pW_0 f w b]
theorem wf_G0 : wfG G0 (fun _ => 0) (fun _ => []) :=
  ⟨fun i hi => absurd hi (Nat.not_lt_zero i), fun i _ => ⟨Nat.zero_le _, Nat.zero_le _, fun x hx => by cases hx⟩, rfl, rfl, by decide, by decide, by decide, by decide, by decide, by decide, fun r hr => absurd hr (Nat.not_lt_zero r), fun i hi => absurd hi (Nat.not_lt_zero i)⟩
theorem mR_0 {I : HI} (h : ∀ a, 17 ≤ a → a ≤ 43 → ∀ j, I a j = 0) : mR I 17 G0 (fun _ => []) (theRun G0 z0) := by
  rw [run_G0]
  refine ⟨⟨h 17 (by decide) (by decide) 9, h 17 (by decide) (by decide) 10, h 17 (by decide) (by decide) 11⟩, ?_, ?_, ?_, ?_, ?_, ?_, ?_⟩
  · exact ⟨h _ (by decide) (by decide) _, fun j hj => absurd hj (Nat.not_lt_zero j), fun j hj => absurd hj (Nat.not_lt_zero j)⟩
  · exact ⟨h _ (by decide) (by decide) _, fun j hj => absurd hj (Nat.not_lt_zero j), fun j hj => absurd hj (Nat.not_lt_zero j)⟩
  · exact ⟨h _ (by decide) (by decide) _, fun j hj => absurd hj (Nat.not_lt_zero j), fun j hj => absurd hj (Nat.not_lt_zero j)⟩
  · exact ⟨h _ (by decide) (by decide) _, fun j hj => absurd hj (Nat.not_lt_zero j), fun j hj => absurd hj (Nat.not_lt_zero j)⟩
  · exact ⟨h _ (by decide) (by decide) _, fun j hj => absurd hj (Nat.not_lt_zero j), fun j hj => absurd hj (Nat.not_lt_zero j), fun j hj => absurd hj (Nat.not_lt_zero j), fun j hj => absurd hj (Nat.not_lt_zero j), fun j hj => absurd hj (Nat.not_lt_zero j), fun j hj => absurd hj (Nat.not_lt_zero j), fun j hj => absurd hj (Nat.not_lt_zero j), fun j hj => absurd hj (Nat.not_lt_zero j), fun j hj => absurd hj (Nat.not_lt_zero j)⟩
  · refine ⟨h _ (by decide) (by decide) _, h _ (by decide) (by decide) _, fun w hw => ?_⟩
    rw [show startT G0 z0 0 5 = 0 from rfl, pW_0]
    exact h _ (by decide) (by decide) _
  · exact ⟨h _ (by decide) (by decide) _, fun j l hl => by simp at hl⟩
/-- what the law puts into the first cells -/
def IY : HI := up (up IZ 0 4 (-1)) 80 12 (-1)
theorem top_0 {I' : HI} {J' : HJ} {R : HR} (hs : Stat R) (h5 : R 0 5 = some 8) (h6 : R 0 6 = some 12) (hq : nbQ (fTx IY) JZ I' J') : TOP I' J' R := by
  obtain ⟨q1, q2, q3, q4, q5, q6, q7⟩ := hq
  have e0 : ∀ a, ¬ a = 80 → fTx IY a = up IZ 0 4 (-1) a := fun a h => by
    simp only [fTx, IY]
    rw [up_ne _ _ _ _ h, up_ne _ _ _ _ h, up_ne _ _ _ _ h, up_ne _ _ _ _ h, up_ne _ _ _ _ h, up_ne _ _ _ _ h, up_ne _ _ _ _ h, up_ne _ _ _ _ h, up_ne _ _ _ _ h]
  have hI : ∀ a, a < 80 → ¬ a = 0 → ∀ j, I' a j = 0 := fun a h1 h2 j => by
    rw [q5 a (by omega) (by omega), e0 a (by omega), up_ne _ _ _ _ h2]
    rfl
  have h00 : I' 0 = up IZ 0 4 (-1) 0 := by rw [q5 0 (by decide) (by decide), e0 0 (by decide)]
  refine ⟨G0, fun _ => 0, fun _ => [], z0, 0, fun _ => 0, 0, -1, ⟨wf_G0, fun _ _ => (by decide : 0 < 1000000007), by decide, fun _ => (by decide : 0 < 256)⟩, ⟨⟨hs, ⟨8, h5, Or.inl rfl, ?_⟩, mR_0 (fun a h1 h2 j => hI a (by omega) (by omega) j)⟩, ⟨8, 12, h5, h6, Or.inl ⟨rfl, rfl⟩⟩, fun j _ => hI 16 (by decide) (by decide) j, ?_, fun j hj => absurd hj (Nat.not_lt_zero j), ?_, ?_⟩, ⟨⟨hs, q1, ?_, ?_⟩, q4, ?_, fun j hj => absurd hj (Nat.not_lt_zero j), ?_, ?_, Or.inl ⟨?_, fun j => ?_⟩⟩⟩
  · exact ⟨hI 8 (by decide) (by decide) _, hI 8 (by decide) (by decide) _, hI 8 (by decide) (by decide) _, hI 8 (by decide) (by decide) _, hI 8 (by decide) (by decide) _, hI 8 (by decide) (by decide) _, fun j hj => absurd hj (Nat.not_lt_zero j), fun j hj => absurd hj (Nat.not_lt_zero j)⟩
  · rw [h00]; rfl
  · rw [h00]; rfl
  · rw [h00]; rfl
  · rw [run_G0]; exact q2
  · rw [run_G0]; exact q3
  · rw [q6 2 (by decide)]; rfl
  · rw [q6 11 (by decide)]; rfl
  · rw [q6 12 (by decide)]; rfl
  · rw [q6 73 (by decide)]; rfl
  · rw [q5 118 (by decide) (by decide)]; rfl
set_option maxHeartbeats 4000000 in
theorem law_begin {C : CT} {X : Option (Nat × (Nat → Int32))} {Q : PQ} {K : KT} (hC : ∀ N As I J R Q, am_W 64 N As I J R Q → C N As I J R Q) (hK : am_R M_L_law C X RZ Q K) (h : ∀ I J R, TOP I J R → am_g R = 0 → K 23 [(4, .int 0), (3, .ref 121), (2, .ref 80), (1, .ref 0), (0, .ref 999)] [] I J R) : K 0 [(0, .ref 999)] [] IZ JZ RZ := by
  have z0 := sz_0 0 frs_Z
  refine k_znew hK z0 (k := 10) dL_law_0 rfl (am_ac in_t1 22 rfl rfl) (am_ac in_t1 23 rfl rfl) (am_ac in_t1 1 rfl rfl) (by decide +kernel) (fun R1 z1 => ?_)
  refine k_op hK dL_law_3 rfl rfl ?_
  refine k_zci (As := []) (a := 0) hK dL_law_4 lm_L_17 rfl (by decide) (sz_fit z1 (by decide +kernel)) rfl (hC _ _ _ _ _ _ (n_X11_0 (d := 61) z1.2.1 (fun R2 y2 => ?_)))
  have z2 := sz_tr (sz_I (a := 0) (k := 4) (x := -1) z1 (by omega)) y2 (by decide +kernel)
  have t2 : hld R2 tl11 := y2.2.2.2
  clear y2 z1 z0
  refine k_st hK dL_law_7 rfl rfl rfl (Nat.le_of_ble_eq_true rfl) rfl ?_
  refine k_znew hK z2 (k := 11) dL_law_8 rfl (am_ac in_t5 120 rfl rfl) (am_ac in_t5 121 rfl rfl) (am_ac in_t1 12 rfl rfl) (by decide +kernel) (fun R3 z3 => ?_)
  have t3 : hld R3 tl11 := z3.2.2.2
  refine k_op hK dL_law_11 rfl rfl ?_
  refine k_zci (As := []) (a := 80) hK dL_law_12 lm_L_20 rfl (by decide) (sz_fit z3 (by decide +kernel)) rfl (hC _ _ _ _ _ _ (n_X12_80 (d := 60) z3.2.1 t3 (fun I4 J4 R4 s4 f4 r4 q4 => ?_)))
  have h5 : R4 0 5 = some 8 := (r4 0 5 (by decide)).trans (t3 (0, 5, 8) (by decide +kernel))
  have h6 : R4 0 6 = some 12 := (r4 0 6 (by decide)).trans (t3 (0, 6, 12) (by decide +kernel))
  have z4 : sz I4 J4 RZ R4 0 121 0 ((0, 5, 8) :: (0, 6, 12) :: stab) := by
    refine ⟨⟨rfl, rfl⟩, ⟨f4.1, f4.2.1, fun c h1 h2 => ?_⟩, fun a j ha => absurd ha (Nat.not_lt_zero a), fun q hq => ?_⟩
    · obtain ⟨g1, g2, g3⟩ := f4.2.2 c h1 h2
      refine ⟨fun j => ?_, fun j => ?_, g3⟩
      · rw [q4.2.2.2.2.1 c (by omega) (by omega)]
        simp only [fTx]
        rw [up_na (by omega), up_na (by omega), up_na (by omega), up_na (by omega), up_na (by omega), up_na (by omega), up_na (by omega), up_na (by omega)]
        exact g1 j
      · rw [q4.2.2.2.2.2.2 c (by omega)]
        exact g2 j
    · rcases List.mem_cons.mp hq with rfl | hq
      · exact h5
      · rcases List.mem_cons.mp hq with rfl | hq
        · exact h6
        · have h1 := List.all_eq_true.mp s4.2 q hq
          simpa using h1
  refine k_st hK dL_law_15 rfl rfl rfl (Nat.le_of_ble_eq_true rfl) rfl ?_
  refine k_ic hK dL_law_16 (v := 1) (by decide) ?_
  refine k_zna hK z4 dL_law_17 (am_ac in_t6 195 rfl rfl) (by decide +kernel) (fun R5 z5 => ?_)
  refine k_st hK dL_law_19 rfl rfl rfl (Nat.le_of_ble_eq_true rfl) rfl ?_
  refine k_ic hK dL_law_20 (v := 0) (by decide) ?_
  refine k_st hK dL_law_21 rfl rfl rfl (Nat.le_of_ble_eq_true rfl) rfl ?_
  refine h I4 J4 R5 (top_0 ⟨z5.2.1.1, List.all_eq_true.mpr fun q hq => ?_⟩ (z5.2.2.2 (0, 5, 8) List.mem_cons_self) (z5.2.2.2 (0, 6, 12) (List.mem_cons_of_mem _ List.mem_cons_self)) q4) (sz_c z5).1
  rw [decide_eq_true_eq]
  exact z5.2.2.2 q (List.mem_cons_of_mem _ (List.mem_cons_of_mem _ hq))
