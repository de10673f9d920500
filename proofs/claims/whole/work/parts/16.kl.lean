/-! the rules, ready for use -/
def b2i (b : Bool) : Int32 := match b with
  | true => 1
  | false => 0
theorem b2i_0 (b : Bool) : b2i b = 0 ↔ b = false := by cases b <;> decide
theorem b2i_nar (b : Bool) : narrow .boolean (.int (b2i b)) = .int (b2i b) := by cases b <;> decide
theorem b2i_fits (b : Bool) : fits .boolean (.int (b2i b)) = true := by cases b <;> decide
theorem b2i_01 (b : Bool) : b2i b = 0 ∨ b2i b = 1 := by cases b <;> decide
theorem up_s {α : Type} {f : Nat → Nat → α} {a k : Nat} {v : α} : up f a k v a k = v := by simp [up]
theorem up_na {α : Type} {f : Nat → Nat → α} {a k b j : Nat} {v : α} (h : ¬ b = a) : up f a k v b j = f b j := by simp [up, h]
theorem up_nk {α : Type} {f : Nat → Nat → α} {a k b j : Nat} {v : α} (h : ¬ j = k) : up f a k v b j = f b j := by simp [up, h]
theorem am_W_mono : ∀ (d : Nat) {N : MI} {As : List Value} {I : HI} {J : HJ} {R : HR} {Q Q' : PQ}, (∀ r I J R, Q r I J R → Q' r I J R) → am_W d N As I J R Q → am_W d N As I J R Q'
  | 0, _, _, _, _, _, _, _, _, h => h
  | _ + 1, _, _, _, _, _, _, _, hq, h => ⟨h.1, fun K hK => h.2 K (by
      obtain ⟨h1, h2, h3, h4, h5, h6, h7, h8, h9, h10, h11, h12, h13, h14, h15, h16, h17, ⟨r1, r2, r3⟩, h19⟩ := hK
      exact ⟨h1, h2, h3, h4, h5, h6, h7, h8, h9, h10, h11, h12, h13, h14, h15, h16, h17, ⟨fun pc L I J R x ty a1 a2 a3 a4 a5 => r1 pc L I J R x ty a1 a2 a3 a4 (hq _ _ _ _ a5), fun pc L I J R x a1 a2 a3 a4 => r2 pc L I J R x a1 a2 a3 (hq _ _ _ _ a4), fun pc L I J R a1 a2 a3 a4 => r3 pc L I J R a1 a2 a3 (hq _ _ _ _ a4)⟩, h19⟩)⟩
theorem am_R_C {M : MI} {C C' : CT} {X : Option (Nat × (Nat → Int32))} {R0 : HR} {Q : PQ} {K : KT} (hC : ∀ N As I J R Q, C N As I J R Q → C' N As I J R Q) (hK : am_R M C' X R0 Q K) : am_R M C X R0 Q K := by
  obtain ⟨h1, h2, h3, h4, h5, h6, h7, h8, h9, h10, h11, h12, h13, h14, ⟨c1, c2, c3, c4⟩, h16⟩ := hK
  exact ⟨h1, h2, h3, h4, h5, h6, h7, h8, h9, h10, h11, h12, h13, h14, ⟨fun pc L S As St I J R idx k n a N a1 a2 a3 a4 a5 a6 a7 a8 => c1 pc L S As St I J R idx k n a N a1 a2 a3 a4 a5 a6 a7 (hC _ _ _ _ _ _ a8), fun pc L S As St I J R idx n N a1 a2 a3 a5 a6 a7 a8 => c2 pc L S As St I J R idx n N a1 a2 a3 a5 a6 a7 (hC _ _ _ _ _ _ a8), fun pc L S As St I J R idx n a N a1 a2 a3 a5 a6 a7 a8 => c3 pc L S As St I J R idx n a N a1 a2 a3 a5 a6 a7 (hC _ _ _ _ _ _ a8), c4⟩, h16⟩
theorem am_W_succ : ∀ (d : Nat) {N : MI} {As : List Value} {I : HI} {J : HJ} {R : HR} {Q : PQ}, am_W d N As I J R Q → am_W (d + 1) N As I J R Q
  | 0, _, _, _, _, _, _, h => absurd h (fun h => h)
  | d + 1, _, _, _, _, _, _, h => ⟨h.1, fun K hK => h.2 K (am_R_C (fun _ _ _ _ _ _ h => am_W_succ d h) hK)⟩
theorem am_W_le {d e : Nat} (hde : d ≤ e) {N : MI} {As : List Value} {I : HI} {J : HJ} {R : HR} {Q : PQ} (h : am_W d N As I J R Q) : am_W e N As I J R Q := by
  induction hde with
  | refl => exact h
  | step _ ih => exact am_W_succ _ ih
def swK (x : Int32) (P : Nat → Prop) (D : Prop) : List (Int32 × Nat) → Prop
  | [] => D
  | (c, t) :: cs => (x = c → P t) ∧ (¬ x = c → swK x P D cs)
theorem swc {x c : Int32} {t : Nat} {P : Nat → Prop} {D : Prop} {cs : List (Int32 × Nat)} (h1 : x = c → P t) (h2 : ¬ x = c → swK x P D cs) : swK x P D ((c, t) :: cs) := ⟨h1, h2⟩
theorem swn {x : Int32} {P : Nat → Prop} {D : Prop} (h : D) : swK x P D [] := h
theorem swK_all {x : Int32} {P : Nat → Prop} {D : Prop} : ∀ {cs : List (Int32 × Nat)}, swK x P D cs → (∀ q ∈ cs, x = q.1 → P q.2) ∨ True := fun _ => Or.inr trivial
theorem swK_in {x : Int32} {P : Nat → Prop} {D : Prop} : ∀ (cs : List (Int32 × Nat)), (cs.map (fun q => q.1)).Nodup → swK x P D cs → (∀ q ∈ cs, x = q.1 → P q.2) ∧ ((∀ q ∈ cs, ¬ x = q.1) → D)
  | [], _, h => ⟨fun q hq => absurd hq List.not_mem_nil, fun _ => h⟩
  | (c, t) :: cs, hn, h => by
    rw [List.map_cons, List.nodup_cons] at hn
    refine ⟨fun q hq hx => ?_, fun hD => (swK_in cs hn.2 (h.2 (hD (c, t) List.mem_cons_self))).2 (fun q hq => hD q (List.mem_cons_of_mem _ hq))⟩
    rcases List.mem_cons.mp hq with rfl | hq
    · exact h.1 hx
    · have hne : ¬ x = c := fun e => hn.1 (List.mem_map.mpr ⟨q, hq, hx.symm.trans e⟩)
      exact (swK_in cs hn.2 (h.2 hne)).1 q hq hx
section KL
variable {M : MI} {C : CT} {X : Option (Nat × (Nat → Int32))} {R0 : HR} {Q : PQ} {K : KT} {pc : Nat} {L L' : LV} {S S' : List Value} {I : HI} {J : HJ} {R : HR}
theorem k_op (hK : am_R M C X R0 Q K) {i : Instr} {n : Nat} (hd : decode M.2.1 pc = .ok (i, n)) (h1 : am_opn i = n) (h2 : am_op i S = some S') (k : K (pc + n) L S' I J R) : K pc L S I J R := hK.1 _ _ _ _ _ _ _ _ _ hd h1 h2 k
theorem k_ic (hK : am_R M C X R0 Q K) {n : Int} {v : Int32} (hd : decode M.2.1 pc = .ok (.iconst n, 1)) (hv : Int32.ofInt n = v) (k : K (pc + 1) L (.int v :: S) I J R) : K pc L S I J R := by subst hv; exact k_op hK hd rfl rfl k
theorem k_bi (hK : am_R M C X R0 Q K) {n : Int} {v : Int32} (hd : decode M.2.1 pc = .ok (.bipush n, 2)) (hv : (Int8.ofInt n).toInt32 = v) (k : K (pc + 2) L (.int v :: S) I J R) : K pc L S I J R := by subst hv; exact k_op hK hd rfl rfl k
theorem k_si (hK : am_R M C X R0 Q K) {n : Int} {v : Int32} (hd : decode M.2.1 pc = .ok (.sipush n, 3)) (hv : (Int16.ofInt n).toInt32 = v) (k : K (pc + 3) L (.int v :: S) I J R) : K pc L S I J R := by subst hv; exact k_op hK hd rfl rfl k
theorem k_lc (hK : am_R M C X R0 Q K) {n : Fin 2} {v : Int64} (hd : decode M.2.1 pc = .ok (.lconst n, 1)) (hv : Int64.ofNat (n : Nat) = v) (k : K (pc + 1) L (.long v :: S) I J R) : K pc L S I J R := by subst hv; exact k_op hK hd rfl rfl k
theorem k_idiv (hK : am_R M C X R0 Q K) {x y : Int32} (hd : decode M.2.1 pc = .ok (.idiv, 1)) (h : ¬ y = 0) (k : K (pc + 1) L (.int (x / y) :: S) I J R) : K pc L (.int y :: .int x :: S) I J R := hK.2.1.1 _ _ _ _ _ _ _ _ hd h k
theorem k_irem (hK : am_R M C X R0 Q K) {x y : Int32} (hd : decode M.2.1 pc = .ok (.irem, 1)) (h : ¬ y = 0) (k : K (pc + 1) L (.int (x - x / y * y) :: S) I J R) : K pc L (.int y :: .int x :: S) I J R := hK.2.1.2.1 _ _ _ _ _ _ _ _ hd h k
theorem k_ldiv (hK : am_R M C X R0 Q K) {x y : Int64} (hd : decode M.2.1 pc = .ok (.ldiv, 1)) (h : ¬ y = 0) (k : K (pc + 1) L (.long (x / y) :: S) I J R) : K pc L (.long y :: .long x :: S) I J R := hK.2.1.2.2.1 _ _ _ _ _ _ _ _ hd h k
theorem k_lrem (hK : am_R M C X R0 Q K) {x y : Int64} (hd : decode M.2.1 pc = .ok (.lrem, 1)) (h : ¬ y = 0) (k : K (pc + 1) L (.long (x - x / y * y) :: S) I J R) : K pc L (.long y :: .long x :: S) I J R := hK.2.1.2.2.2 _ _ _ _ _ _ _ _ hd h k
theorem k_ldc (hK : am_R M C X R0 Q K) {idx : Nat} {v : Int32} (hd : decode M.2.1 pc = .ok (.ldc idx, 2)) (h : am_in (.constant M.2.2.2.2.1 idx v)) (k : K (pc + 2) L (.int v :: S) I J R) : K pc L S I J R := hK.2.2.1.1 _ _ _ _ _ _ _ _ hd h k
theorem k_ldcw (hK : am_R M C X R0 Q K) {idx : Nat} {v : Int32} (hd : decode M.2.1 pc = .ok (.ldc_w idx, 3)) (h : am_in (.constant M.2.2.2.2.1 idx v)) (k : K (pc + 3) L (.int v :: S) I J R) : K pc L S I J R := hK.2.2.1.2.1 _ _ _ _ _ _ _ _ hd h k
theorem k_ldc2 (hK : am_R M C X R0 Q K) {idx : Nat} {v : Int64} (hd : decode M.2.1 pc = .ok (.ldc2_w idx, 3)) (h : am_in (.constantLong M.2.2.2.2.1 idx v)) (k : K (pc + 3) L (.long v :: S) I J R) : K pc L S I J R := hK.2.2.1.2.2 _ _ _ _ _ _ _ _ hd h k
theorem k_ld (hK : am_R M C X R0 Q K) {ins : Instr} {n i t : Nat} {v : Value} (j : Nat) (hd : decode M.2.1 pc = .ok (ins, n)) (h1 : am_ld ins = some (i, t)) (h2 : am_len ins = n) (h3 : L[j]? = some (i, v)) (h4 : am_tv v = t) (k : K (pc + n) L (v :: S) I J R) : K pc L S I J R := hK.2.2.2.1 _ _ _ _ _ _ _ _ _ _ _ _ hd h1 h2 h3 h4 k
theorem k_st (hK : am_R M C X R0 Q K) {ins : Instr} {n i t : Nat} {v : Value} (hd : decode M.2.1 pc = .ok (ins, n)) (h1 : am_si ins = some (i, t)) (h2 : am_len ins = n) (h3 : am_tv v = t) (h4 : i + 1 < M.2.2.1 + (if t = 1 then 0 else 1)) (h5 : am_st L i v = L') (k : K (pc + n) L' S I J R) : K pc L (v :: S) I J R := hK.2.2.2.2.1 _ _ _ _ _ _ _ _ _ _ _ _ hd h1 h2 h3 h4 h5 k
theorem k_iinc (hK : am_R M C X R0 Q K) {i : Nat} {c : Int} {x v : Int32} (j : Nat) (hd : decode M.2.1 pc = .ok (.iinc i c, 3)) (h1 : L[j]? = some (i, .int x)) (h2 : i < M.2.2.1) (h3 : x + Int32.ofInt c = v) (h4 : am_st L i (.int v) = L') (k : K (pc + 3) L' S I J R) : K pc L S I J R := hK.2.2.2.2.2.1 _ _ _ _ _ _ _ _ _ _ _ _ hd h1 h2 h3 h4 k
theorem k_eq (hK : am_R M C X R0 Q K) {off : Int} {tgt : Nat} {x : Int32} (hd : decode M.2.1 pc = .ok (.ifCond .eq off, 3)) (ht : (pc : Int) + off = (tgt : Int)) (k1 : x = 0 → K tgt L S I J R) (k2 : ¬ x = 0 → K (pc + 3) L S I J R) : K pc L (.int x :: S) I J R := hK.2.2.2.2.2.2.1 _ _ _ _ _ _ _ _ _ _ hd ht k1 k2
theorem k_ne (hK : am_R M C X R0 Q K) {off : Int} {tgt : Nat} {x : Int32} (hd : decode M.2.1 pc = .ok (.ifCond .ne off, 3)) (ht : (pc : Int) + off = (tgt : Int)) (k1 : ¬ x = 0 → K tgt L S I J R) (k2 : x = 0 → K (pc + 3) L S I J R) : K pc L (.int x :: S) I J R := hK.2.2.2.2.2.2.1 _ _ _ _ _ _ _ _ _ _ hd ht k1 (fun h => k2 (Classical.not_not.mp h))
theorem k_lt (hK : am_R M C X R0 Q K) {off : Int} {tgt : Nat} {x : Int32} (hd : decode M.2.1 pc = .ok (.ifCond .lt off, 3)) (ht : (pc : Int) + off = (tgt : Int)) (k1 : x < 0 → K tgt L S I J R) (k2 : ¬ x < 0 → K (pc + 3) L S I J R) : K pc L (.int x :: S) I J R := hK.2.2.2.2.2.2.1 _ _ _ _ _ _ _ _ _ _ hd ht k1 k2
theorem k_ge (hK : am_R M C X R0 Q K) {off : Int} {tgt : Nat} {x : Int32} (hd : decode M.2.1 pc = .ok (.ifCond .ge off, 3)) (ht : (pc : Int) + off = (tgt : Int)) (k1 : 0 ≤ x → K tgt L S I J R) (k2 : ¬ 0 ≤ x → K (pc + 3) L S I J R) : K pc L (.int x :: S) I J R := hK.2.2.2.2.2.2.1 _ _ _ _ _ _ _ _ _ _ hd ht k1 k2
theorem k_gt (hK : am_R M C X R0 Q K) {off : Int} {tgt : Nat} {x : Int32} (hd : decode M.2.1 pc = .ok (.ifCond .gt off, 3)) (ht : (pc : Int) + off = (tgt : Int)) (k1 : 0 < x → K tgt L S I J R) (k2 : ¬ 0 < x → K (pc + 3) L S I J R) : K pc L (.int x :: S) I J R := hK.2.2.2.2.2.2.1 _ _ _ _ _ _ _ _ _ _ hd ht k1 k2
theorem k_le (hK : am_R M C X R0 Q K) {off : Int} {tgt : Nat} {x : Int32} (hd : decode M.2.1 pc = .ok (.ifCond .le off, 3)) (ht : (pc : Int) + off = (tgt : Int)) (k1 : x ≤ 0 → K tgt L S I J R) (k2 : ¬ x ≤ 0 → K (pc + 3) L S I J R) : K pc L (.int x :: S) I J R := hK.2.2.2.2.2.2.1 _ _ _ _ _ _ _ _ _ _ hd ht k1 k2
theorem k_beq (hK : am_R M C X R0 Q K) {off : Int} {tgt : Nat} {b : Bool} (hd : decode M.2.1 pc = .ok (.ifCond .eq off, 3)) (ht : (pc : Int) + off = (tgt : Int)) (k1 : b = false → K tgt L S I J R) (k2 : b = true → K (pc + 3) L S I J R) : K pc L (.int (b2i b) :: S) I J R := k_eq hK hd ht (fun h => k1 ((b2i_0 b).mp h)) (fun h => k2 (by cases b <;> first | rfl | exact absurd rfl h))
theorem k_bne (hK : am_R M C X R0 Q K) {off : Int} {tgt : Nat} {b : Bool} (hd : decode M.2.1 pc = .ok (.ifCond .ne off, 3)) (ht : (pc : Int) + off = (tgt : Int)) (k1 : b = true → K tgt L S I J R) (k2 : b = false → K (pc + 3) L S I J R) : K pc L (.int (b2i b) :: S) I J R := k_ne hK hd ht (fun h => k1 (by cases b <;> first | rfl | exact absurd rfl h)) (fun h => k2 ((b2i_0 b).mp h))
theorem k_ceq (hK : am_R M C X R0 Q K) {off : Int} {tgt : Nat} {x y : Int32} (hd : decode M.2.1 pc = .ok (.if_icmp .eq off, 3)) (ht : (pc : Int) + off = (tgt : Int)) (k1 : x = y → K tgt L S I J R) (k2 : ¬ x = y → K (pc + 3) L S I J R) : K pc L (.int y :: .int x :: S) I J R := hK.2.2.2.2.2.2.2.1 _ _ _ _ _ _ _ _ _ _ _ hd ht k1 k2
theorem k_cne (hK : am_R M C X R0 Q K) {off : Int} {tgt : Nat} {x y : Int32} (hd : decode M.2.1 pc = .ok (.if_icmp .ne off, 3)) (ht : (pc : Int) + off = (tgt : Int)) (k1 : ¬ x = y → K tgt L S I J R) (k2 : x = y → K (pc + 3) L S I J R) : K pc L (.int y :: .int x :: S) I J R := hK.2.2.2.2.2.2.2.1 _ _ _ _ _ _ _ _ _ _ _ hd ht k1 (fun h => k2 (Classical.not_not.mp h))
theorem k_clt (hK : am_R M C X R0 Q K) {off : Int} {tgt : Nat} {x y : Int32} (hd : decode M.2.1 pc = .ok (.if_icmp .lt off, 3)) (ht : (pc : Int) + off = (tgt : Int)) (k1 : x < y → K tgt L S I J R) (k2 : ¬ x < y → K (pc + 3) L S I J R) : K pc L (.int y :: .int x :: S) I J R := hK.2.2.2.2.2.2.2.1 _ _ _ _ _ _ _ _ _ _ _ hd ht k1 k2
theorem k_cge (hK : am_R M C X R0 Q K) {off : Int} {tgt : Nat} {x y : Int32} (hd : decode M.2.1 pc = .ok (.if_icmp .ge off, 3)) (ht : (pc : Int) + off = (tgt : Int)) (k1 : y ≤ x → K tgt L S I J R) (k2 : ¬ y ≤ x → K (pc + 3) L S I J R) : K pc L (.int y :: .int x :: S) I J R := hK.2.2.2.2.2.2.2.1 _ _ _ _ _ _ _ _ _ _ _ hd ht k1 k2
theorem k_cgt (hK : am_R M C X R0 Q K) {off : Int} {tgt : Nat} {x y : Int32} (hd : decode M.2.1 pc = .ok (.if_icmp .gt off, 3)) (ht : (pc : Int) + off = (tgt : Int)) (k1 : y < x → K tgt L S I J R) (k2 : ¬ y < x → K (pc + 3) L S I J R) : K pc L (.int y :: .int x :: S) I J R := hK.2.2.2.2.2.2.2.1 _ _ _ _ _ _ _ _ _ _ _ hd ht k1 k2
theorem k_cle (hK : am_R M C X R0 Q K) {off : Int} {tgt : Nat} {x y : Int32} (hd : decode M.2.1 pc = .ok (.if_icmp .le off, 3)) (ht : (pc : Int) + off = (tgt : Int)) (k1 : x ≤ y → K tgt L S I J R) (k2 : ¬ x ≤ y → K (pc + 3) L S I J R) : K pc L (.int y :: .int x :: S) I J R := hK.2.2.2.2.2.2.2.1 _ _ _ _ _ _ _ _ _ _ _ hd ht k1 k2
theorem k_leq (hK : am_R M C X R0 Q K) {off : Int} {tgt : Nat} {x y : Int64} (hd1 : decode M.2.1 pc = .ok (.lcmp, 1)) (hd : decode M.2.1 (pc + 1) = .ok (.ifCond .eq off, 3)) (ht : ((pc + 1 : Nat) : Int) + off = (tgt : Int)) (k1 : x = y → K tgt L S I J R) (k2 : ¬ x = y → K (pc + 1 + 3) L S I J R) : K pc L (.long y :: .long x :: S) I J R := k_op hK hd1 rfl rfl (k_eq hK hd ht (fun h => k1 ((lg_cmp_eq x y).mp h)) (fun h => k2 (fun q => h ((lg_cmp_eq x y).mpr q))))
theorem k_lne (hK : am_R M C X R0 Q K) {off : Int} {tgt : Nat} {x y : Int64} (hd1 : decode M.2.1 pc = .ok (.lcmp, 1)) (hd : decode M.2.1 (pc + 1) = .ok (.ifCond .ne off, 3)) (ht : ((pc + 1 : Nat) : Int) + off = (tgt : Int)) (k1 : ¬ x = y → K tgt L S I J R) (k2 : x = y → K (pc + 1 + 3) L S I J R) : K pc L (.long y :: .long x :: S) I J R := k_op hK hd1 rfl rfl (k_ne hK hd ht (fun h => k1 (fun q => h ((lg_cmp_eq x y).mpr q))) (fun h => k2 ((lg_cmp_eq x y).mp h)))
theorem k_llt (hK : am_R M C X R0 Q K) {off : Int} {tgt : Nat} {x y : Int64} (hd1 : decode M.2.1 pc = .ok (.lcmp, 1)) (hd : decode M.2.1 (pc + 1) = .ok (.ifCond .lt off, 3)) (ht : ((pc + 1 : Nat) : Int) + off = (tgt : Int)) (k1 : x < y → K tgt L S I J R) (k2 : ¬ x < y → K (pc + 1 + 3) L S I J R) : K pc L (.long y :: .long x :: S) I J R := k_op hK hd1 rfl rfl (k_lt hK hd ht (fun h => k1 ((lg_cmp_lt x y).mp h)) (fun h => k2 (fun q => h ((lg_cmp_lt x y).mpr q))))
theorem k_lge (hK : am_R M C X R0 Q K) {off : Int} {tgt : Nat} {x y : Int64} (hd1 : decode M.2.1 pc = .ok (.lcmp, 1)) (hd : decode M.2.1 (pc + 1) = .ok (.ifCond .ge off, 3)) (ht : ((pc + 1 : Nat) : Int) + off = (tgt : Int)) (k1 : y ≤ x → K tgt L S I J R) (k2 : ¬ y ≤ x → K (pc + 1 + 3) L S I J R) : K pc L (.long y :: .long x :: S) I J R := k_op hK hd1 rfl rfl (k_ge hK hd ht (fun h => k1 ((lg_cmp_ge x y).mp h)) (fun h => k2 (fun q => h ((lg_cmp_ge x y).mpr q))))
theorem k_lgt (hK : am_R M C X R0 Q K) {off : Int} {tgt : Nat} {x y : Int64} (hd1 : decode M.2.1 pc = .ok (.lcmp, 1)) (hd : decode M.2.1 (pc + 1) = .ok (.ifCond .gt off, 3)) (ht : ((pc + 1 : Nat) : Int) + off = (tgt : Int)) (k1 : y < x → K tgt L S I J R) (k2 : ¬ y < x → K (pc + 1 + 3) L S I J R) : K pc L (.long y :: .long x :: S) I J R := k_op hK hd1 rfl rfl (k_gt hK hd ht (fun h => k1 ((lg_cmp_gt x y).mp h)) (fun h => k2 (fun q => h ((lg_cmp_gt x y).mpr q))))
theorem k_lle (hK : am_R M C X R0 Q K) {off : Int} {tgt : Nat} {x y : Int64} (hd1 : decode M.2.1 pc = .ok (.lcmp, 1)) (hd : decode M.2.1 (pc + 1) = .ok (.ifCond .le off, 3)) (ht : ((pc + 1 : Nat) : Int) + off = (tgt : Int)) (k1 : x ≤ y → K tgt L S I J R) (k2 : ¬ x ≤ y → K (pc + 1 + 3) L S I J R) : K pc L (.long y :: .long x :: S) I J R := k_op hK hd1 rfl rfl (k_le hK hd ht (fun h => k1 ((lg_cmp_le x y).mp h)) (fun h => k2 (fun q => h ((lg_cmp_le x y).mpr q))))
theorem k_goto (hK : am_R M C X R0 Q K) {off : Int} {tgt : Nat} (hd : decode M.2.1 pc = .ok (.goto off, 3)) (ht : (pc : Int) + off = (tgt : Int)) (k : K tgt L S I J R) : K pc L S I J R := hK.2.2.2.2.2.2.2.2.1 _ _ _ _ _ _ _ _ hd ht k
theorem k_tab (hK : am_R M C X R0 Q K) {dflt lo hi : Int} {offs : Array Int} {len td : Nat} {cs : List (Int32 × Nat)} {x : Int32} (hd : decode M.2.1 pc = .ok (.tableswitch dflt lo hi offs, len)) (hc : am_tab pc dflt lo hi offs cs td = true) (hn : (cs.map (fun q => q.1)).Nodup) (k : swK x (fun t => K t L S I J R) (K td L S I J R) cs) : K pc L (.int x :: S) I J R :=
  have h := swK_in cs hn k
  hK.2.2.2.2.2.2.2.2.2.1.1 _ _ _ _ _ _ _ _ _ _ _ _ _ _ hd hc h.1 h.2
theorem k_lkp (hK : am_R M C X R0 Q K) {dflt : Int} {ps : Array (Int × Int)} {len td : Nat} {cs : List (Int32 × Nat)} {x : Int32} (hd : decode M.2.1 pc = .ok (.lookupswitch dflt ps, len)) (hc : am_lkp pc dflt ps cs td = true) (hn : (cs.map (fun q => q.1)).Nodup) (k : swK x (fun t => K t L S I J R) (K td L S I J R) cs) : K pc L (.int x :: S) I J R :=
  have h := swK_in cs hn k
  hK.2.2.2.2.2.2.2.2.2.1.2 _ _ _ _ _ _ _ _ _ _ _ _ hd hc h.1 h.2
theorem k_sub (hK : am_R M C X R0 Q K) (ks : List Nat) (h : lv_pick L ks = L') (k : K pc L' S I J R) : K pc L S I J R := hK.2.2.2.2.2.2.2.2.2.2.1 _ _ _ _ _ _ _ _ h k
theorem k_gI (hK : am_R M C X R0 Q K) {idx k j a : Nat} {v : Int32} (hd : decode M.2.1 pc = .ok (.getfield idx, 3)) (hl : am_lkF M.2.2.2.2.1 idx k j) (h1 : am_isR (am_ty k j) = false) (ha : am_is R a k) (hv : I a j = v) (kk : K (pc + 3) L (.int v :: S) I J R) : K pc L (.ref a :: S) I J R := by subst hv; exact hK.2.2.2.2.2.2.2.2.2.2.2.1.1 _ _ _ _ _ _ _ _ _ _ hd hl h1 ha kk
theorem k_gR (hK : am_R M C X R0 Q K) {idx k j a b : Nat} (hd : decode M.2.1 pc = .ok (.getfield idx, 3)) (hl : am_lkF M.2.2.2.2.1 idx k j) (h1 : am_isR (am_ty k j) = true) (ha : am_is R a k) (hv : R a j = some b) (kk : K (pc + 3) L (.ref b :: S) I J R) : K pc L (.ref a :: S) I J R := hK.2.2.2.2.2.2.2.2.2.2.2.1.2 _ _ _ _ _ _ _ _ _ _ _ hd hl h1 ha hv kk
theorem k_pI (hK : am_R M C X R0 Q K) {idx k j a : Nat} {x : Int32} (hd : decode M.2.1 pc = .ok (.putfield idx, 3)) (hl : am_lkF M.2.2.2.2.1 idx k j) (h1 : am_isR (am_ty k j) = false) (h2 : am_fin k j = false) (h3 : fits (am_ty k j) (.int x) = true) (ha : am_is R a k) (kk : K (pc + 3) L S (up I a j x) J R) : K pc L (.int x :: .ref a :: S) I J R := hK.2.2.2.2.2.2.2.2.2.2.2.2.1.1 _ _ _ _ _ _ _ _ _ _ _ hd hl h1 h2 h3 ha kk
theorem k_pR (hK : am_R M C X R0 Q K) {idx k j a b : Nat} (hd : decode M.2.1 pc = .ok (.putfield idx, 3)) (hl : am_lkF M.2.2.2.2.1 idx k j) (h1 : am_isR (am_ty k j) = true) (h2 : am_fin k j = false ∨ (M.1.name = "<init>" ∧ am_cls[k]?.map (fun q => (q.2.1 j).1) = some M.2.2.2.2.1)) (ha : am_is R a k) (kk : K (pc + 3) L S I J (up R a j (some b))) : K pc L (.ref b :: .ref a :: S) I J R := hK.2.2.2.2.2.2.2.2.2.2.2.2.1.2 _ _ _ _ _ _ _ _ _ _ _ hd hl h1 h2 ha kk
theorem k_iald (hK : am_R M C X R0 Q K) {a n N : Nat} {i v : Int32} (hd : decode M.2.1 pc = .ok (.iaload, 1)) (ha : am_is R a 13) (hN : (am_T a).2 = N) (hb : N ≤ 10000) (hi : i = nI n) (hn : n < N) (hv : I a n = v) (k : K (pc + 1) L (.int v :: S) I J R) : K pc L (.int i :: .ref a :: S) I J R := by
  subst hi; subst hv; subst hN
  refine hK.2.2.2.2.2.2.2.2.2.2.2.2.2.1.1 _ _ _ _ _ _ _ _ hd ha (vp_in_nI hn (by omega)) ?_
  rw [nI_clamp (by omega)]; exact k
theorem k_bald (hK : am_R M C X R0 Q K) {a n N : Nat} {i v : Int32} (hd : decode M.2.1 pc = .ok (.baload, 1)) (ha : am_is R a 12 ∨ am_is R a 15) (hN : (am_T a).2 = N) (hb : N ≤ 10000) (hi : i = nI n) (hn : n < N) (hv : I a n = v) (k : K (pc + 1) L (.int v :: S) I J R) : K pc L (.int i :: .ref a :: S) I J R := by
  subst hi; subst hv; subst hN
  refine hK.2.2.2.2.2.2.2.2.2.2.2.2.2.1.2.1 _ _ _ _ _ _ _ _ hd ha (vp_in_nI hn (by omega)) ?_
  rw [nI_clamp (by omega)]; exact k
theorem k_lald (hK : am_R M C X R0 Q K) {a n N : Nat} {i : Int32} {v : Int64} (hd : decode M.2.1 pc = .ok (.laload, 1)) (ha : am_is R a 14) (hN : (am_T a).2 = N) (hb : N ≤ 10000) (hi : i = nI n) (hn : n < N) (hv : J a n = v) (k : K (pc + 1) L (.long v :: S) I J R) : K pc L (.int i :: .ref a :: S) I J R := by
  subst hi; subst hv; subst hN
  refine hK.2.2.2.2.2.2.2.2.2.2.2.2.2.1.2.2.1 _ _ _ _ _ _ _ _ hd ha (vp_in_nI hn (by omega)) ?_
  rw [nI_clamp (by omega)]; exact k
theorem k_iast (hK : am_R M C X R0 Q K) {a n N : Nat} {i x : Int32} (hd : decode M.2.1 pc = .ok (.iastore, 1)) (ha : am_is R a 13) (hN : (am_T a).2 = N) (hb : N ≤ 10000) (hi : i = nI n) (hn : n < N) (k : K (pc + 1) L S (up I a n x) J R) : K pc L (.int x :: .int i :: .ref a :: S) I J R := by
  subst hi; subst hN
  refine hK.2.2.2.2.2.2.2.2.2.2.2.2.2.1.2.2.2.1 _ _ _ _ _ _ _ _ _ hd ha (vp_in_nI hn (by omega)) ?_
  rw [nI_clamp (by omega)]; exact k
theorem k_bast (hK : am_R M C X R0 Q K) {a n N : Nat} {i x : Int32} (hd : decode M.2.1 pc = .ok (.bastore, 1)) (ha : am_is R a 12 ∧ x.toInt8.toInt32 = x ∨ am_is R a 15 ∧ (x = 0 ∨ x = 1)) (hN : (am_T a).2 = N) (hb : N ≤ 10000) (hi : i = nI n) (hn : n < N) (k : K (pc + 1) L S (up I a n x) J R) : K pc L (.int x :: .int i :: .ref a :: S) I J R := by
  subst hi; subst hN
  refine hK.2.2.2.2.2.2.2.2.2.2.2.2.2.1.2.2.2.2.1 _ _ _ _ _ _ _ _ _ hd ha (vp_in_nI hn (by omega)) ?_
  rw [nI_clamp (by omega)]; exact k
theorem k_last (hK : am_R M C X R0 Q K) {a n N : Nat} {i : Int32} {x : Int64} (hd : decode M.2.1 pc = .ok (.lastore, 1)) (ha : am_is R a 14) (hN : (am_T a).2 = N) (hb : N ≤ 10000) (hi : i = nI n) (hn : n < N) (k : K (pc + 1) L S I (up J a n x) R) : K pc L (.long x :: .int i :: .ref a :: S) I J R := by
  subst hi; subst hN
  refine hK.2.2.2.2.2.2.2.2.2.2.2.2.2.1.2.2.2.2.2.1 _ _ _ _ _ _ _ _ _ hd ha (vp_in_nI hn (by omega)) ?_
  rw [nI_clamp (by omega)]; exact k
theorem k_alen (hK : am_R M C X R0 Q K) {a N : Nat} {v : Int32} (hd : decode M.2.1 pc = .ok (.arraylength, 1)) (ha : am_is R a 12 ∨ am_is R a 13) (hN : (am_T a).2 = N) (hv : Int32.ofNat N = v) (k : K (pc + 1) L (.int v :: S) I J R) : K pc L (.ref a :: S) I J R := by
  subst hv; subst hN
  exact hK.2.2.2.2.2.2.2.2.2.2.2.2.2.1.2.2.2.2.2.2.1 _ _ _ _ _ _ _ hd ha k
theorem k_sld (hK : am_R M C X R0 Q K) {i : Int32} {n m : Nat} {xs : Nat → Int32} (hd : decode M.2.1 pc = .ok (.iaload, 1)) (hX : X = some (m, xs)) (hm : m ≤ 10000) (hi : i = nI n) (hn : n < m) (k : K (pc + 1) L (.int (xs n) :: S) I J R) : K pc L (.int i :: .ref 999 :: S) I J R := by
  subst hi
  refine hK.2.2.2.2.2.2.2.2.2.2.2.2.2.1.2.2.2.2.2.2.2.1 _ _ _ _ _ _ _ _ _ hd hX (vp_in_nI hn (by omega)) ?_
  rw [nI_clamp (by omega)]; exact k
theorem k_slen (hK : am_R M C X R0 Q K) {n : Nat} {xs : Nat → Int32} (hd : decode M.2.1 pc = .ok (.arraylength, 1)) (hX : X = some (n, xs)) (k : K (pc + 1) L (.int (nI n) :: S) I J R) : K pc L (.ref 999 :: S) I J R := hK.2.2.2.2.2.2.2.2.2.2.2.2.2.1.2.2.2.2.2.2.2.2 _ _ _ _ _ _ _ _ hd hX k
theorem k_copy (hK : am_R M C X R0 Q K) {idx a b na nb : Nat} {sp dp n : Int32} {s0 d0 n0 : Nat} (hd : decode M.2.1 pc = .ok (.invokestatic idx, 3)) (l1 : am_in (.methodLink M.2.2.2.2.1 idx arraycopyName)) (l2 : am_in (.native arraycopyName)) (l3 : am_in (.static arraycopyName)) (l4 : am_in (.initialized "java/lang/System")) (ha : am_is R a 13) (hb : am_is R b 13) (hc : am_cat S ≤ 8) (hs : sp = nI s0) (hp : dp = nI d0) (hn : n = nI n0) (b1 : s0 ≤ 10000) (b2 : d0 ≤ 10000) (b3 : n0 ≤ 10000) (h1 : (am_T a).2 = na) (h2 : (am_T b).2 = nb) (h3 : s0 + n0 ≤ na) (h4 : d0 + n0 ≤ nb) (k : K (pc + 3) L S (am_cp I a b s0 d0 n0) J R) : K pc L (.int n :: .int dp :: .ref b :: .int sp :: .ref a :: S) I J R := by
  subst hs; subst hp; subst hn; subst h1; subst h2
  refine hK.2.2.2.2.2.2.2.2.2.2.2.2.2.2.2.1 _ _ _ _ _ _ _ _ _ _ _ _ hd l1 l2 l3 l4 ha hb hc (nI_pos (by omega)) (nI_pos (by omega)) (nI_pos (by omega)) ?_ ?_ ?_ <;> simp only [nI_clamp (show s0 < 2 ^ 31 by omega), nI_clamp (show d0 < 2 ^ 31 by omega), nI_clamp (show n0 < 2 ^ 31 by omega)]
  · exact h3
  · exact h4
  · exact k
theorem k_max (hK : am_R M C X R0 Q K) {idx : Nat} {x y : Int32} (hd : decode M.2.1 pc = .ok (.invokestatic idx, 3)) (l1 : am_in (.methodLink M.2.2.2.2.1 idx Lib.Math.max.name)) (l2 : am_in (.static Lib.Math.max.name)) (l3 : am_in (.initialized "java/lang/Math")) (l4 : am_in (.code Lib.Math.max.name Lib.Math.max.code 2 (some .int))) (hc : am_cat S ≤ 8) (f1 : am_cc R ≤ am_cc R0 + M.2.2.2.2.2.1) (f2 : am_sc R ≤ am_sc R0 + M.2.2.2.2.2.2) (k : K (pc + 3) L (.int (if x < y then y else x) :: S) I J R) : K pc L (.int y :: .int x :: S) I J R := hK.2.2.2.2.2.2.2.2.2.2.2.2.2.2.2.2.2.2.1 _ _ _ _ _ _ _ _ _ hd l1 l2 l3 l4 hc f1 f2 k
theorem k_min (hK : am_R M C X R0 Q K) {idx : Nat} {x y : Int32} (hd : decode M.2.1 pc = .ok (.invokestatic idx, 3)) (l1 : am_in (.methodLink M.2.2.2.2.1 idx Lib.Math.min.name)) (l2 : am_in (.static Lib.Math.min.name)) (l3 : am_in (.initialized "java/lang/Math")) (l4 : am_in (.code Lib.Math.min.name Lib.Math.min.code 2 (some .int))) (hc : am_cat S ≤ 8) (f1 : am_cc R ≤ am_cc R0 + M.2.2.2.2.2.1) (f2 : am_sc R ≤ am_sc R0 + M.2.2.2.2.2.2) (k : K (pc + 3) L (.int (if y < x then y else x) :: S) I J R) : K pc L (.int y :: .int x :: S) I J R := hK.2.2.2.2.2.2.2.2.2.2.2.2.2.2.2.2.2.2.2 _ _ _ _ _ _ _ _ _ hd l1 l2 l3 l4 hc f1 f2 k
theorem k_iret (hK : am_R M C X R0 Q K) {x : Int32} {ty : FieldType} (hd : decode M.2.1 pc = .ok (.ireturn, 1)) (h1 : M.2.2.2.1 = some ty) (h2 : narrow ty (.int x) = .int x) (h3 : am_done M R0 R) (hq : Q (some (.int x)) I J R) : K pc L [.int x] I J R := hK.2.2.2.2.2.2.2.2.2.2.2.2.2.2.2.2.2.1.1 _ _ _ _ _ _ _ hd h1 h2 h3 hq
theorem k_lret (hK : am_R M C X R0 Q K) {x : Int64} (hd : decode M.2.1 pc = .ok (.lreturn, 1)) (h1 : M.2.2.2.1 = some .long) (h3 : am_done M R0 R) (hq : Q (some (.long x)) I J R) : K pc L [.long x] I J R := hK.2.2.2.2.2.2.2.2.2.2.2.2.2.2.2.2.2.1.2.1 _ _ _ _ _ _ hd h1 h3 hq
theorem k_vret (hK : am_R M C X R0 Q K) (hd : decode M.2.1 pc = .ok (.return_, 1)) (h1 : M.2.2.2.1 = none) (h3 : am_done M R0 R) (hq : Q none I J R) : K pc L [] I J R := hK.2.2.2.2.2.2.2.2.2.2.2.2.2.2.2.2.2.1.2.2 _ _ _ _ _ hd h1 h3 hq
end KL
section KC
variable {M : MI} {d : Nat} {X : Option (Nat × (Nat → Int32))} {R0 : HR} {Q : PQ} {K : KT} {pc : Nat} {L L' : LV} {S S' As St : List Value} {I : HI} {J : HJ} {R : HR} {idx kd n a : Nat} {N : MI}
theorem k_cV (hK : am_R M (am_W d) X R0 Q K) {Qn : PQ} (hd : decode M.2.1 pc = .ok (.invokevirtual idx, 3)) (hl : am_lkV M.2.2.2.2.1 idx kd N n ∨ am_lkVN M.2.2.2.2.1 idx kd N n) (hn : As.length = n) (ha : am_is R a kd) (hc : am_cat S ≤ 8) (hf : am_fit M N R0 R) (hst : St = As.reverse ++ .ref a :: S) (hF : am_W d N (.ref a :: As) I J R Qn) (hq : ∀ r I' J' R', Qn r I' J' R' → K (pc + 3) L (r.toList ++ S) I' J' R') : K pc L St I J R := hK.2.2.2.2.2.2.2.2.2.2.2.2.2.2.1.1 _ _ _ _ _ _ _ _ _ _ _ _ _ hd hl hn ha hc hf hst (am_W_mono d hq hF)
theorem k_cS (hK : am_R M (am_W d) X R0 Q K) {Qn : PQ} (hd : decode M.2.1 pc = .ok (.invokestatic idx, 3)) (hl : am_lkS M.2.2.2.2.1 idx N n) (hn : As.length = n) (hc : am_cat S ≤ 8) (hf : am_fit M N R0 R) (hst : St = As.reverse ++ S) (hF : am_W d N As I J R Qn) (hq : ∀ r I' J' R', Qn r I' J' R' → K (pc + 3) L (r.toList ++ S) I' J' R') : K pc L St I J R := hK.2.2.2.2.2.2.2.2.2.2.2.2.2.2.1.2.1 _ _ _ _ _ _ _ _ _ _ _ hd hl hn hc hf hst (am_W_mono d hq hF)
end KC
/-! what a method's end looks like: P nothing changed, C ints changed, D ints and longs, R references too; i an int, b a truth, l a long, v nothing -/
def qP {α : Type} (f : α → Option Value) (I : HI) (J : HJ) (R : HR) (Q : α → Prop) : PQ := fun r I' J' R' => ∃ x, r = f x ∧ I' = I ∧ J' = J ∧ R' = R ∧ Q x
def qC {α : Type} (f : α → Option Value) (J : HJ) (R : HR) (Q : α → HI → Prop) : PQ := fun r I' J' R' => ∃ x, r = f x ∧ J' = J ∧ R' = R ∧ Q x I'
def qD {α : Type} (f : α → Option Value) (R : HR) (Q : α → HI → HJ → Prop) : PQ := fun r I' J' R' => ∃ x, r = f x ∧ R' = R ∧ Q x I' J'
def qR {α : Type} (f : α → Option Value) (J : HJ) (R : HR) (Q : α → HI → HR → Prop) : PQ := fun r I' J' R' => ∃ x, r = f x ∧ J' = J ∧ Stat R' ∧ am_g R' = am_g R ∧ Q x I' R'
abbrev fi (x : Int32) : Option Value := some (.int x)
abbrev fb (x : Bool) : Option Value := some (.int (b2i x))
abbrev fl (x : Int64) : Option Value := some (.long x)
abbrev fv (_ : Unit) : Option Value := none
abbrev Wp {α : Type} (f : α → Option Value) (d : Nat) (N : MI) (As : List Value) (I : HI) (J : HJ) (R : HR) (Q : α → Prop) : Prop := am_W d N As I J R (qP f I J R Q)
abbrev Wc {α : Type} (f : α → Option Value) (d : Nat) (N : MI) (As : List Value) (I : HI) (J : HJ) (R : HR) (Q : α → HI → Prop) : Prop := am_W d N As I J R (qC f J R Q)
abbrev Wd {α : Type} (f : α → Option Value) (d : Nat) (N : MI) (As : List Value) (I : HI) (J : HJ) (R : HR) (Q : α → HI → HJ → Prop) : Prop := am_W d N As I J R (qD f R Q)
abbrev Wr {α : Type} (f : α → Option Value) (d : Nat) (N : MI) (As : List Value) (I : HI) (J : HJ) (R : HR) (Q : α → HI → HR → Prop) : Prop := am_W d N As I J R (qR f J R Q)
theorem cc_of {R0 R : HR} (hs0 : Stat R0) (hs : Stat R) (hg : am_g R = am_g R0) : am_cc R = am_cc R0 ∧ am_sc R = am_sc R0 := by
  simp only [am_cc, am_sc, hs0.n, hs.n, hg, and_self]
theorem fit_of {M N : MI} {R0 R : HR} (hs0 : Stat R0) (hs : Stat R) (hg : am_g R = am_g R0) (h1 : N.2.2.2.2.2.1 = 0) (h2 : N.2.2.2.2.2.2 = 0) : am_fit M N R0 R := by
  obtain ⟨e1, e2⟩ := cc_of hs0 hs hg
  exact ⟨by rw [e1, h1]; exact Nat.le_add_right _ _, by rw [e2, h2]; exact Nat.le_add_right _ _⟩
theorem done_of {M : MI} {R0 R : HR} (hs0 : Stat R0) (hs : Stat R) (hg : am_g R = am_g R0) (h1 : M.2.2.2.2.2.1 = 0) (h2 : M.2.2.2.2.2.2 = 0) : am_done M R0 R := by
  obtain ⟨e1, e2⟩ := cc_of hs0 hs hg
  exact ⟨hg, by rw [e1, h1]; rfl, by rw [e2, h2]; rfl⟩
theorem done_0 {M : MI} {R : HR} (h1 : M.2.2.2.2.2.1 = 0) (h2 : M.2.2.2.2.2.2 = 0) : am_done M R R := ⟨rfl, by rw [h1]; rfl, by rw [h2]; rfl⟩
theorem fit_0 {M N : MI} {R : HR} (h1 : N.2.2.2.2.2.1 = 0) (h2 : N.2.2.2.2.2.2 = 0) : am_fit M N R R := ⟨by rw [h1]; exact Nat.le_add_right _ _, by rw [h2]; exact Nat.le_add_right _ _⟩
