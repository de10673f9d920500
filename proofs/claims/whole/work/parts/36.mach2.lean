/-! PATH's bits -/
theorem pW_lt (f : Nat → Nat) (n w : Nat) (hf : ∀ j, j < n → f j = 0 ∨ f j = 1) : ∀ b, pW f n w b < 2 ^ b
  | 0 => by simp [pW]
  | b + 1 => by
    have ih := pW_lt f n w hf b
    simp only [pW]
    split
    · rename_i h
      rcases hf _ h with h0 | h0 <;> rw [h0] <;> simp [Nat.pow_succ] <;> omega
    · simp [Nat.pow_succ]; omega
theorem pW_stop (f : Nat → Nat) (n w b : Nat) (hb : n ≤ 32 * w + b) : ∀ m, pW f n w (b + m) = pW f n w b
  | 0 => rfl
  | m + 1 => by
    rw [← Nat.add_assoc]
    simp only [pW]
    rw [if_neg (by omega), pW_stop f n w b hb m]
    rfl
theorem pW_cong (f g : Nat → Nat) (n w : Nat) (h : ∀ j, j < n → f j = g j) : ∀ b, pW f n w b = pW g n w b
  | 0 => rfl
  | b + 1 => by
    simp only [pW]
    rw [pW_cong f g n w h b]
    split
    · rename_i hc; rw [h _ hc]
    · rfl
theorem pW_other (f : Nat → Nat) (n w v : Nat) (hw : ¬ w = n / 32) : ∀ b, b ≤ 32 → pW (fun j => if j = n then v else f j) (n + 1) w b = pW f n w b
  | 0, _ => rfl
  | b + 1, hb => by
    simp only [pW]
    rw [pW_other f n w v hw b (by omega)]
    by_cases h : 32 * w + b < n
    · rw [if_pos h, if_pos (by omega), if_neg (by omega)]
    · rw [if_neg h, if_neg (by omega)]
theorem pW_here (f : Nat → Nat) (n v : Nat) : pW (fun j => if j = n then v else f j) (n + 1) (n / 32) 32 = pW f n (n / 32) 32 + v * 2 ^ (n % 32) := by
  have h1 : ∀ b, b ≤ n % 32 → pW (fun j => if j = n then v else f j) (n + 1) (n / 32) b = pW f n (n / 32) b := by
    intro b
    induction b with
    | zero => intro _; rfl
    | succ b ih =>
      intro hb
      simp only [pW]
      have g1 : 32 * (n / 32) + b < n := by omega
      have g2 : 32 * (n / 32) + b < n + 1 := by omega
      have g3 : ¬ 32 * (n / 32) + b = n := by omega
      rw [ih (by omega)]
      simp only [if_pos g1, if_pos g2, if_neg g3]
  have h2 : pW (fun j => if j = n then v else f j) (n + 1) (n / 32) (n % 32 + 1) = pW f n (n / 32) (n % 32) + v * 2 ^ (n % 32) := by
    simp only [pW]
    rw [h1 _ (Nat.le_refl _), if_pos (by omega), if_pos (by omega)]
  have h3 := pW_stop (fun j => if j = n then v else f j) (n + 1) (n / 32) (n % 32 + 1) (by omega) (32 - (n % 32 + 1))
  have h4 := pW_stop f n (n / 32) (n % 32) (by omega) (32 - n % 32)
  rw [show n % 32 + 1 + (32 - (n % 32 + 1)) = 32 by omega] at h3
  rw [show n % 32 + (32 - n % 32) = 32 by omega] at h4
  rw [h3, h4, h2]
theorem pW_bit (f : Nat → Nat) (n k : Nat) (hk : k < n) (hf : ∀ j, j < n → f j = 0 ∨ f j = 1) : pW f n (k / 32) 32 / 2 ^ (k % 32) % 2 = f k := by
  have key : ∀ m, k % 32 < m → m ≤ 32 → pW f n (k / 32) m / 2 ^ (k % 32) % 2 = f k := by
    intro m
    induction m with
    | zero => intro h; omega
    | succ m ih =>
      intro h1 h2
      simp only [pW]
      by_cases hm : m = k % 32
      · rw [hm, if_pos (by omega), show 32 * (k / 32) + k % 32 = k by omega]
        have hlt := pW_lt f n (k / 32) hf (k % 32)
        rw [Nat.add_mul_div_right _ _ (Nat.two_pow_pos _), Nat.div_eq_of_lt hlt, Nat.zero_add]
        rcases hf k hk with h0 | h0 <;> rw [h0]
      · have ih' := ih (by omega) (by omega)
        have hsplit : 2 ^ m = 2 ^ (k % 32) * (2 * 2 ^ (m - k % 32 - 1)) := by
          rw [← Nat.pow_succ', ← Nat.pow_add]
          congr 1
          omega
        split
        · rw [hsplit, show ∀ x y z : Nat, x * (y * (2 * z)) = y * (2 * (x * z)) from fun x y z => by ac_rfl, Nat.add_mul_div_left _ _ (Nat.two_pow_pos _), Nat.add_mul_mod_self_left]
          exact ih'
        · exact ih'
  exact key 32 (by omega) (Nat.le_refl _)
theorem sh_amt {k : Nat} (h : k < 32) : ((nI k).toBitVec.smod 32).toNat = k := by
  have key : ∀ k : Fin 32, ((nI k.val).toBitVec.smod 32).toNat = k.val := by decide
  exact key ⟨k, h⟩
theorem ush_amt {k : Nat} (h : k % 2 ^ 5 < 32) : (((nI (k % 2 ^ 5)).toUInt32 &&& Int32.toUInt32 31).toBitVec % 32).toNat = k % 32 := by
  have key : ∀ k : Fin 32, (((nI k.val).toUInt32 &&& Int32.toUInt32 31).toBitVec % 32).toNat = k.val := by decide
  exact key ⟨k % 2 ^ 5, h⟩
section AN
variable {d : Nat} {I : HI} {J : HJ} {R : HR} {o : Nat}
theorem t_aclear {Q : Unit → HI → Prop} (hs : Stat R) (ho : isX0 o) (h : ∀ I', tsR I' o (fun _ => 0) 0 0 → (∀ a, ¬ a = o → ¬ a = o + 1 → I' a = I a) → Q () I') : Wc fv (d + 2) M_X0_clear [.ref o] I J R Q := by
  refine e_X0_clear hs ho ?_
  refine t_fill hs (sk_X0_1 hs ho) (sl_X0_1 ho) (by decide) ?_
  refine h _ ⟨by simp [up_ap, nI_0], by simp [up_ap, nI_0], fun w hw => ?_⟩ (fun a h1 h2 => ?_)
  · have : ∀ b, pW (fun _ => 0) 0 w b = 0 := by
      intro b
      induction b with
      | zero => rfl
      | succ b ih => simp [pW, ih]
    simp [up_ap, fillI, hw, this, nI_0]
  · rw [up_ne _ _ _ _ h1, up_ne _ _ _ _ h1]
    funext j
    simp [fillI, h2]
theorem t_aadd {f : Nat → Nat} {n so : Nat} {b : Bool} {Q : Unit → HI → Prop} (hs : Stat R) (ho : isX0 o) (hn : n < 1024) (hso : so ≤ n) (hf : ∀ j, j < n → f j = 0 ∨ f j = 1) (hT : tsR I o f n so) (h : ∀ I', tsR I' o (fun j => if j = n then (if b then 1 else 0) else f j) (n + 1) (so + (if b then 1 else 0)) → (∀ a, ¬ a = o → ¬ a = o + 1 → I' a = I a) → Q () I') : Wc fv (d + 1) M_X0_add [.ref o, .int (b2i b)] I J R Q := by
  obtain ⟨h1, h2, h3⟩ := hT
  refine e_X0_add hs ho ?_
  have e5 : nI n >>> ((5 : Int32) &&& 31) = nI (n / 2 ^ 5) := pk_shrN (by omega) _ 5 (by decide)
  have e31 : nI n &&& 31 = nI (n % 2 ^ 5) := pk_andN (by omega) 5 (by decide)
  rw [h1, e5, e31, nI_1]
  refine ⟨fun hb => ?_, fun hb => ?_⟩
  · subst hb
    refine h _ ⟨by simp [up_ap], by simp [up_ap, h2], fun w hw => ?_⟩ (fun a ha _ => up_ne _ _ _ _ ha)
    rw [up_ne _ _ _ _ (by omega), h3 w hw]
    by_cases hwn : w = n / 32
    · subst hwn
      have := pW_here f n 0
      simp only [Bool.false_eq_true, if_false]
      rw [this, Nat.zero_mul, Nat.add_zero]
    · have := pW_other f n w 0 hwn 32 (Nat.le_refl _)
      simp only [Bool.false_eq_true, if_false]
      rw [this]
  · subst hb
    refine ⟨fun hc => absurd hc (nI_pos (by omega)), fun _ => ⟨fun hc => absurd hc (nI_ge (b := 32) (by omega) (by omega)), fun _ => ⟨n / 32, by simp, by omega, ?_⟩⟩⟩
    have hb31 : n % 2 ^ 5 < 32 := by omega
    have esh : (1 : Int32) <<< (nI (n % 2 ^ 5) &&& 31) = nI (2 ^ (n % 32)) := by
      have e2 : nI (n % 2 ^ 5) &&& 31 = nI (n % 32) := by
        rw [show (nI (n % 2 ^ 5) &&& 31) = nI (n % 2 ^ 5 % 2 ^ 5) from pk_andN (by omega) 5 (by decide)]
        congr 1
        omega
      rw [e2]
      have hp : 2 ^ (n % 32) < 2 ^ 32 := Nat.pow_lt_pow_right (by decide) (by omega)
      have := pk_shlN (n := 1) (nI (n % 32)) (n % 32) (sh_amt (by omega)) (by omega)
      rw [Nat.one_mul] at this
      exact this
    have hlt : pW f n (n / 32) 32 < 2 ^ (n % 32) := by
      have h4 := pW_stop f n (n / 32) (n % 32) (by omega) (32 - n % 32)
      rw [show n % 32 + (32 - n % 32) = 32 by omega] at h4
      rw [h4]
      exact pW_lt f n (n / 32) hf (n % 32)
    rw [esh, h2, nI_1, h3 _ (by omega), or_nI, Nat.or_comm]
    have hor := or_sum 1 hlt
    rw [Nat.mul_one] at hor
    rw [hor]
    refine h _ ⟨by simp [up_ap], by simp [up_ap], fun w hw => ?_⟩ (fun a ha ha2 => ?_)
    · rw [up_ne _ _ _ _ (by omega), up_ne _ _ _ _ (by omega)]
      by_cases hwn : w = n / 32
      · subst hwn
        have := pW_here f n 1
        rw [Nat.one_mul] at this
        simp only [if_true]
        rw [this]
        simp [up_ap, Nat.add_comm]
      · have := pW_other f n w 1 hwn 32 (Nat.le_refl _)
        simp only [if_true]
        rw [this]
        simp [up_ap, hwn, h3 w hw]
    · rw [up_ne _ _ _ _ ha, up_ne _ _ _ _ ha, up_ne _ _ _ _ ha2]
theorem t_answerAt {f : Nat → Nat} {n so k : Nat} {Q : Int32 → Prop} (hs : Stat R) (ho : isX0 o) (hn : n ≤ 1024) (hk : k < n) (hf : ∀ j, j < n → f j = 0 ∨ f j = 1) (hT : tsR I o f n so) (h : Q (nI (f k))) : Wp fi (d + 1) M_X0_answerAt [.ref o, .int (nI k)] I J R Q := by
  obtain ⟨h1, h2, h3⟩ := hT
  refine e_X0_answerAt hs ho ?_
  have e5 : nI k >>> ((5 : Int32) &&& 31) = nI (k / 2 ^ 5) := pk_shrN (by omega) _ 5 (by decide)
  have e31 : nI k &&& 31 = nI (k % 2 ^ 5) := pk_andN (by omega) 5 (by decide)
  rw [e5, e31]
  refine ⟨fun hc => absurd hc (nI_pos (by omega)), fun _ => ⟨fun hc => absurd hc (nI_ge (b := 32) (by omega) (by omega)), fun _ => ⟨k / 32, by simp, by omega, ?_⟩⟩⟩
  have hlt := pW_lt f n (k / 32) hf 32
  rw [h3 _ (by omega), pk_ushrN hlt (nI (k % 2 ^ 5)) (k % 32) (ush_amt (by omega))]
  rw [show (nI (pW f n (k / 32) 32 / 2 ^ (k % 32)) &&& 1) = nI (pW f n (k / 32) 32 / 2 ^ (k % 32) % 2 ^ 1) from pk_andN (Nat.lt_of_le_of_lt (Nat.div_le_self _ _) hlt) 1 (by decide)]
  rw [Nat.pow_one, pW_bit f n k hk hf]
  exact h
end AN
