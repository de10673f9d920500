theorem am_maxL {l : Launch} {N : MI} {n : Nat} (h : am_okM N n) : N.2.2.1 ≤ 40 := h.2.2.2.2.2.2.2
theorem am_entry_map (base b : Nat) : ∀ (As : List Value) (i : Nat), lv_args i (As.map (am_cv base b)) = am_lv base b (lv_args i As)
  | [], _ => rfl
  | v :: vs, i => by
    simp only [List.map_cons, lv_args, am_cv_cat, am_lv]
    rw [am_entry_map base b vs]
    rfl
theorem am_wid_map (base b : Nat) (As : List Value) : am_wid (As.map (am_cv base b)) = am_wid As := by
  simp only [am_wid, lg_sl, List.flatMap_map, am_cv_cat]
  induction As with
  | nil => rfl
  | cons v vs ih =>
    simp only [List.flatMap_cons, List.length_append, ih]
    split <;> rfl
theorem am_rules {p : Program} {l : Launch} {e : Env} {Rm : Room} {s : State} {m : MethodId} {args : Array Value} {below : List Frame} {meth : Method} {c : Code} {Qf : Nat → Nat → State → Prop} {base b : Nat} {cy : Nat → ClassId} {D : va_G} {M : MI} {R0 : HR} {d : Nat} {C : CT} {X0 : Option (Nat × (Nat → Int32))} {Q : PQ}
    (hC : ∀ (N : MI) (n : Nat) (As : List Value) (I : HI) (J : HJ) (R : HR) (Q : PQ), am_okM N n → C N As I J R Q → am_Met l d N As I J R Q) (X : am_Cx d M p Rm s m args meth c base cy D R0) (hX : ∀ n xs, X0 = some (n, xs) → va_X b n xs s s.heap ∧ b < s.heap.size ∧ b < base)
    (hret : ru_ret M R0 Q (am_K0 p l e Rm s m args below meth c Qf base b cy D M R0)) : am_R M C X0 R0 Q (am_K0 p l e Rm s m args below meth c Qf base b cy D M R0) :=
  ⟨s_op X, s_div X, s_ldc X, s_ld X, s_st X, s_iinc X, s_if X, s_icmp X, s_goto X, s_sw X, s_sub, s_get X, s_put X, s_arr X hX, s_call hC X, s_copy X, s_new X, hret, s_math X⟩
theorem am_sound (l : Launch) : ∀ (d : Nat) (N : MI) (n : Nat) (As : List Value) (I : HI) (J : HJ) (R : HR) (Q : PQ), am_okM N n → am_W d N As I J R Q → am_Met l d N As I J R Q
  | 0, N, n, As, I, J, R, Q, hok, h => absurd h (fun h => h)
  | d + 1, N, n, As, I, J, R, Q, hok, h => by
    intro base b cy D
    refine Met.ofW (cc := N.2.1) (maxL := N.2.2.1) (ret := N.2.2.2.1) hok.1 rfl ?_
    intro p e s m args below meth c s₁ B hml hv
    obtain ⟨rfl, hW, hK, hNW, hb1, hb2⟩ := hv
    have hts0 := atoms_spec (ws := am_wsM N) B.pre
    have hts : ∀ w ∈ am_GW, w.before _ s = true := fun w hw => hts0 w (List.mem_cons_of_mem _ hw)
    have hown : s.vm.findClass N.1.cls = some m.cls := findClass_of_methodNamed B.named
    have hname : N.1.name = "<init>" → meth.name = "<init>" := fun hn => (name_of_methodNamed B.named B.method).1.trans hn
    have X : am_Cx d N p (headSpec (am_wsM N) (am_rm N (d + 1))).room s m _ meth c base cy D R := ⟨B.exec, B.bytes, hml, by rw [hok.2.2.2.2.2.2.1]; exact hown, hts, hNW, hK, ⟨Nat.le_refl _, by show 64 * d + 64 ≤ 64 * (d + 1); omega, Nat.le_refl _, Nat.le_refl _⟩, ⟨hb1, hb2⟩, hname⟩
    obtain ⟨hA, h⟩ := h
    have hR := am_rules (p := p) (e := e) (below := below) (b := b) (Q := Q) (C := am_W d) (X0 := none) (am_sound l d) X (fun n xs hn => by cases hn) (s_ret (b := b) (Q := Q) B.returns B.notSynchronized X)
    have hl := lv_entry (As.map (am_cv base b)) (n := N.2.2.1) (by have := am_wid_map base b As; simp only [am_wid] at this hA; omega)
    rw [lg_entry_eq]
    rw [am_entry_map] at hl
    exact h _ hR s.heap [] 0 0 _ hW va_S.rf hl ⟨by omega, by omega, Nat.le_refl _⟩
