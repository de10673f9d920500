theorem am_lay_good (C : String) (T : u_T) (k : Nat) : goodWord (u_lay C T k) = true := by
  unfold u_lay
  split <;> rfl
theorem am_u_of {C : String} {T : u_T} {N : Nat} (h : ∀ w ∈ u_ws C T N, w ∈ lw_tbl) : ∀ w ∈ u_ws C T N, w ∈ am_GW := by
  intro w hw
  refine List.mem_filter.mpr ⟨h w hw, ?_⟩
  obtain ⟨k, -, rfl⟩ := List.mem_map.mp hw
  exact am_lay_good C T k
theorem am_u_in : ∀ (k : Nat) (q : vw_C), am_cls[k]? = some q → ∀ w ∈ u_ws q.1 q.2.1 q.2.2, w ∈ am_GW
  | 0, q, h => by cases h; exact am_u_of inX0
  | 1, q, h => by cases h; exact am_u_of inX1
  | 2, q, h => by cases h; exact am_u_of inX2
  | 3, q, h => by cases h; exact am_u_of inX4
  | 4, q, h => by cases h; exact am_u_of inX5
  | 5, q, h => by cases h; exact am_u_of inX6
  | 6, q, h => by cases h; exact am_u_of inX7
  | 7, q, h => by cases h; exact am_u_of inX8
  | 8, q, h => by cases h; exact am_u_of inX9
  | 9, q, h => by cases h; exact am_u_of inX10
  | 10, q, h => by cases h; exact am_u_of inX11
  | 11, q, h => by cases h; exact am_u_of inX12
  | n + 12, q, h => by simp at h
theorem am_ty_ok : ∀ (k : Nat) (q : vw_C), am_cls[k]? = some q → ∀ j, j < q.2.2 → parseFieldDescriptor (q.2.1 j).2.2.1 = some (am_ty k j)
  | 0, q, h => by cases h; exact tyX0_ok
  | 1, q, h => by cases h; exact tyX1_ok
  | 2, q, h => by cases h; exact tyX2_ok
  | 3, q, h => by cases h; exact tyX4_ok
  | 4, q, h => by cases h; exact tyX5_ok
  | 5, q, h => by cases h; exact tyX6_ok
  | 6, q, h => by cases h; exact tyX7_ok
  | 7, q, h => by cases h; exact tyX8_ok
  | 8, q, h => by cases h; exact tyX9_ok
  | 9, q, h => by cases h; exact tyX10_ok
  | 10, q, h => by cases h; exact tyX11_ok
  | 11, q, h => by cases h; exact tyX12_ok
  | n + 12, q, h => by simp at h
theorem am_nm : ∀ (k : Nat) (q : vw_C), am_cls[k]? = some q → ∀ a, a < q.2.2 → ∀ b, b < q.2.2 → a ≠ b → (q.2.1 a).2.1 ≠ (q.2.1 b).2.1
  | 0, q, h => by cases h; exact nmX0
  | 1, q, h => by cases h; exact nmX1
  | 2, q, h => by cases h; exact nmX2
  | 3, q, h => by cases h; exact nmX4
  | 4, q, h => by cases h; exact nmX5
  | 5, q, h => by cases h; exact nmX6
  | 6, q, h => by cases h; exact nmX7
  | 7, q, h => by cases h; exact nmX8
  | 8, q, h => by cases h; exact nmX9
  | 9, q, h => by cases h; exact nmX10
  | 10, q, h => by cases h; exact nmX11
  | 11, q, h => by cases h; exact nmX12
  | n + 12, q, h => by simp at h
theorem am_fin_of {k j : Nat} {q : vw_C} (h : am_cls[k]? = some q) : am_fin k j = (q.2.1 j).2.2.2 := by
  simp only [am_fin, List.getElem?_map, h, Option.map, Option.getD]
/-- what is fixed while method M is gone through -/
def am_Cx (d : Nat) (M : MI) (p : Program) (Rm : Room) (s : State) (m : MethodId) (args : Array Value) (meth : Method) (c : Code) (base : Nat) (cy : Nat → ClassId) (D : va_G) (R0 : HR) : Prop :=
  p.tables.exec = Jvm.exec ∧ c.code = M.2.1 ∧ c.maxLocals = M.2.2.1 ∧ s.vm.findClass M.2.2.2.2.1 = some m.cls ∧ (∀ w ∈ am_GW, w.before args s = true) ∧ (∀ w ∈ am_NW, va_Nw w s) ∧ va_K D am_cls (am_tys cy) s ∧ (d + 1 ≤ Rm.frames ∧ 64 * d + 64 ≤ Rm.locals ∧ M.2.2.2.2.2.1 ≤ Rm.cells ∧ M.2.2.2.2.2.2 ≤ Rm.slots) ∧ (base ≤ s.heap.size ∧ (am_g R0 = 0 → s.heap.size = base + am_n R0)) ∧ (M.1.name = "<init>" → meth.name = "<init>")
def am_ct (R0 R : HR) (cells slots : Nat) : Prop := cells + am_cc R0 = am_cc R ∧ slots + am_sc R0 = am_sc R ∧ am_g R0 ≤ am_g R
def am_K0 (p : Program) (l : Launch) (e : Env) (Rm : Room) (s : State) (m : MethodId) (args : Array Value) (below : List Frame) (meth : Method) (c : Code) (Qf : Nat → Nat → State → Prop) (base b : Nat) (cy : Nat → ClassId) (D : va_G) (M : MI) (R0 : HR) : KT := fun pc L S I J R =>
  ∀ (H : Heap) (locs : List Loc) (cells slots : Nat) (ls : Array Slot), am_Wd base b cy D I J R H → va_S (fun q => base ≤ q) s.heap H locs → lv_has ls M.2.2.1 (am_lv base b L) → am_ct R0 R cells slots → W p l e Rm s m args below meth c H locs cells slots (Qf M.2.2.2.2.2.1 M.2.2.2.2.2.2) (F0 m pc ls (S.map (am_cv base b)))
section AMS
variable {p : Program} {l : Launch} {e : Env} {Rm : Room} {s : State} {m : MethodId} {args : Array Value} {below : List Frame} {meth : Method} {c : Code} {Qf : Nat → Nat → State → Prop} {base b : Nat} {cy : Nat → ClassId} {D : va_G} {M : MI} {R0 : HR} {d : Nat}
theorem s_op (X : am_Cx d M p Rm s m args meth c base cy D R0) : ru_op M (am_K0 p l e Rm s m args below meth c Qf base b cy D M R0) := by
  obtain ⟨hx, hb, -⟩ := X
  intro pc L S S' I J R i n hd hn ho K H locs cells slots ls h1 h2 h3 h4
  have K := K H locs cells slots ls h1 h2 h3 h4
  subst hn
  unfold am_op at ho
  split at ho
  · cases ho; exact lv_iconst hx hb hd rfl K
  · cases ho; exact lv_bipush hx hb hd rfl K
  · cases ho; exact lv_sipush hx hb hd rfl K
  · cases ho; exact lv_lconst hx hb hd rfl K
  · cases ho; exact lv_iadd hx hb hd K
  · cases ho; exact lv_isub hx hb hd K
  · cases ho; exact lv_imul hx hb hd K
  · cases ho; exact lv_iand hx hb hd K
  · cases ho; exact lv_ior hx hb hd K
  · cases ho; exact lv_ishl hx hb hd K
  · cases ho; exact lv_ishr hx hb hd K
  · cases ho; exact lv_iushr hx hb hd rfl K
  · cases ho; exact lv_ladd hx hb hd K
  · cases ho; exact lv_lsub hx hb hd K
  · cases ho; exact lv_lmul hx hb hd K
  · cases ho; exact lv_lneg hx hb hd K
  · cases ho; exact lv_i2l hx hb hd rfl K
  · cases ho; exact lv_l2i hx hb hd rfl K
  · cases ho; exact lv_i2b hx hb hd rfl K
  · cases ho; exact W.lcmp hx hb hd K
  · cases ho; exact lv_dup hx hb hd rfl K
  · cases ho; exact lv_dup hx hb hd rfl K
  · cases ho; exact lv_dup2_11 hx hb hd rfl rfl K
  · cases ho; exact lv_pop hx hb hd rfl K
  · cases ho
theorem s_div (X : am_Cx d M p Rm s m args meth c base cy D R0) : ru_div M (am_K0 p l e Rm s m args below meth c Qf base b cy D M R0) := by
  obtain ⟨hx, hb, -⟩ := X
  refine ⟨?_, ?_, ?_, ?_⟩ <;> intro pc L S I J R x y hd hn K H locs cells slots ls h1 h2 h3 h4
  · exact lv_idiv hx hb hd hn (K H locs cells slots ls h1 h2 h3 h4)
  · exact lv_irem hx hb hd hn (K H locs cells slots ls h1 h2 h3 h4)
  · exact lv_ldiv hx hb hd hn (K H locs cells slots ls h1 h2 h3 h4)
  · exact lv_lrem hx hb hd hn (K H locs cells slots ls h1 h2 h3 h4)
theorem s_ldc (X : am_Cx d M p Rm s m args meth c base cy D R0) : ru_ldc M (am_K0 p l e Rm s m args below meth c Qf base b cy D M R0) := by
  obtain ⟨hx, hb, -, hown, hts, -⟩ := X
  refine ⟨?_, ?_, ?_⟩ <;> intro pc L S I J R idx v hd hi K H locs cells slots ls h1 h2 h3 h4
  · exact lv_ldc hx hb hown (hts _ hi) hd (K H locs cells slots ls h1 h2 h3 h4)
  · exact lv_ldcw hx hb hown (hts _ hi) hd (K H locs cells slots ls h1 h2 h3 h4)
  · exact lv_ldc2 hx hb hown (hts _ hi) hd (K H locs cells slots ls h1 h2 h3 h4)
theorem s_ld (X : am_Cx d M p Rm s m args meth c base cy D R0) : ru_ld M (am_K0 p l e Rm s m args below meth c Qf base b cy D M R0) := by
  obtain ⟨hx, hb, -⟩ := X
  intro pc L S I J R ins n i k t v hd hl hn hk ht K H locs cells slots ls h1 h2 h3 h4
  have K := K H locs cells slots ls h1 h2 h3 h4
  have hg := lv_at h3 k (am_lv_get hk)
  subst hn
  unfold am_ld at hl
  split at hl
  · cases hl
    cases v with
    | int x => exact lv_iload_n hx hb hd rfl hg K
    | _ => simp [am_tv] at ht
  · cases hl
    cases v with
    | int x => exact lv_iload hx hb hd hg K
    | _ => simp [am_tv] at ht
  · cases hl
    cases v with
    | long x => exact lv_lload_n hx hb hd rfl hg K
    | _ => simp [am_tv] at ht
  · cases hl
    cases v with
    | long x => exact lv_lload hx hb hd hg K
    | _ => simp [am_tv] at ht
  · cases hl
    cases v with
    | ref x => exact lv_aload_n hx hb hd rfl hg K
    | _ => simp [am_tv] at ht
  · cases hl
    cases v with
    | ref x => exact lv_aload hx hb hd hg K
    | _ => simp [am_tv] at ht
  · cases hl
theorem s_st (X : am_Cx d M p Rm s m args meth c base cy D R0) : ru_st M (am_K0 p l e Rm s m args below meth c Qf base b cy D M R0) := by
  obtain ⟨hx, hb, -⟩ := X
  intro pc L L' S I J R ins n i t v hd hl hn ht hi hL K H locs cells slots ls h1 h2 h3 h4
  have K := fun ls h3 => K H locs cells slots ls h1 h2 h3 h4
  subst hL
  rw [am_lv_st] at K
  subst hn
  unfold am_si at hl
  split at hl
  · cases hl
    cases v with
    | int x => exact lv_istore_n hx hb hd rfl h3 (by simpa using hi) rfl K
    | _ => simp [am_tv] at ht
  · cases hl
    cases v with
    | int x => exact lv_istore hx hb hd h3 (by simpa using hi) rfl K
    | _ => simp [am_tv] at ht
  · cases hl
    cases v with
    | long x => exact lv_lstore_n hx hb hd rfl h3 (by simpa using hi) rfl K
    | _ => simp [am_tv] at ht
  · cases hl
    cases v with
    | long x => exact lv_lstore hx hb hd h3 (by simpa using hi) rfl K
    | _ => simp [am_tv] at ht
  · cases hl
    cases v with
    | ref x => exact lv_astore_n hx hb hd rfl h3 (by simpa using hi) rfl K
    | _ => simp [am_tv] at ht
  · cases hl
    cases v with
    | ref x => exact lv_astore hx hb hd h3 (by simpa using hi) rfl K
    | _ => simp [am_tv] at ht
  · cases hl
theorem s_iinc (X : am_Cx d M p Rm s m args meth c base cy D R0) : ru_iinc M (am_K0 p l e Rm s m args below meth c Qf base b cy D M R0) := by
  obtain ⟨hx, hb, -⟩ := X
  intro pc L L' S I J R i k n x v hd hk hi hv hL K H locs cells slots ls h1 h2 h3 h4
  have K := fun ls h3 => K H locs cells slots ls h1 h2 h3 h4
  subst hL
  rw [am_lv_st] at K
  exact lv_iinc hx hb hd h3 (am_lv_get hk) hv hi rfl K
theorem s_if (X : am_Cx d M p Rm s m args meth c base cy D R0) : ru_if M (am_K0 p l e Rm s m args below meth c Qf base b cy D M R0) := by
  obtain ⟨hx, hb, -⟩ := X
  intro pc L S I J R cnd off tgt x hd ht kt kf H locs cells slots ls h1 h2 h3 h4
  have kt := fun h => kt h H locs cells slots ls h1 h2 h3 h4
  have kf := fun h => kf h H locs cells slots ls h1 h2 h3 h4
  cases cnd
  · exact lv_if_eq hx hb hd ht kt kf
  · exact lv_if_ne hx hb hd ht kt (fun h => kf (fun q => q h))
  · exact lv_if_lt hx hb hd ht kt kf
  · exact lv_if_ge hx hb hd ht kt kf
  · exact lv_if_gt hx hb hd ht kt kf
  · exact lv_if_le hx hb hd ht kt kf
theorem s_icmp (X : am_Cx d M p Rm s m args meth c base cy D R0) : ru_icmp M (am_K0 p l e Rm s m args below meth c Qf base b cy D M R0) := by
  obtain ⟨hx, hb, -⟩ := X
  intro pc L S I J R cnd off tgt x y hd ht kt kf H locs cells slots ls h1 h2 h3 h4
  have kt := fun h => kt h H locs cells slots ls h1 h2 h3 h4
  have kf := fun h => kf h H locs cells slots ls h1 h2 h3 h4
  cases cnd
  · exact lv_icmp_eq hx hb hd ht kt kf
  · exact lv_icmp_ne hx hb hd ht kt (fun h => kf (fun q => q h))
  · exact lv_icmp_lt hx hb hd ht kt kf
  · exact lv_icmp_ge hx hb hd ht kt kf
  · exact lv_icmp_gt hx hb hd ht kt kf
  · exact lv_icmp_le hx hb hd ht kt kf
theorem s_goto (X : am_Cx d M p Rm s m args meth c base cy D R0) : ru_goto M (am_K0 p l e Rm s m args below meth c Qf base b cy D M R0) := by
  obtain ⟨hx, hb, -⟩ := X
  intro pc L S I J R off tgt hd ht k H locs cells slots ls h1 h2 h3 h4
  exact lv_goto hx hb hd ht (k H locs cells slots ls h1 h2 h3 h4)
theorem s_sub : ru_sub (am_K0 p l e Rm s m args below meth c Qf base b cy D M R0) := by
  intro pc L L' S I J R ks hL k H locs cells slots ls h1 h2 h3 h4
  exact k H locs cells slots ls h1 h2 (lv_sub h3 ks (by rw [am_lv_pick, hL])) h4
end AMS
