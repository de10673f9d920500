/-! THE ABSTRACT MACHINE: a heap of three functions (ints, longs, references) by a cell's number and a place; a method's meaning as the least predicate that is closed under the instructions' rules (am_W). 07 shows that what am_W says holds of the machine. -/
abbrev HI : Type := Nat → Nat → Int32
abbrev HJ : Type := Nat → Nat → Int64
abbrev HR : Type := Nat → Nat → Option Nat
abbrev LV : Type := List (Nat × Value)
abbrev PQ : Type := Option Value → HI → HJ → HR → Prop
/-- a method: its name, code, locals, answer, class, cells and slots that it makes -/
abbrev MI : Type := MethodName × ByteArray × Nat × Option FieldType × String × Nat × Nat
abbrev KT : Type := Nat → LV → List Value → HI → HJ → HR → Prop
abbrev CT : Type := MI → List Value → HI → HJ → HR → PQ → Prop
def up {α : Type} (f : Nat → Nat → α) (a k : Nat) (v : α) : Nat → Nat → α := fun b j => if b = a ∧ j = k then v else f b j
abbrev am_cls : List vw_C := [(RX0, TX0, 3), (RX1, TX1, 12), (RX2, TX2, 3), (RX4, TX4, 10), (RX5, TX5, 9), (RX6, TX6, 6), (RX7, TX7, 3), (RX8, TX8, 3), (RX9, TX9, 11), (RX10, TX10, 8), (RX11, TX11, 15), (RX12, TX12, 80)]
def am_ty (k : Nat) : Nat → FieldType := match k with
  | 0 => tyX0
  | 1 => tyX1
  | 2 => tyX2
  | 3 => tyX4
  | 4 => tyX5
  | 5 => tyX6
  | 6 => tyX7
  | 7 => tyX8
  | 8 => tyX9
  | 9 => tyX10
  | 10 => tyX11
  | _ => tyX12
def am_isR (t : FieldType) : Bool := match t with
  | .object _ => true
  | .array _ => true
  | _ => false
/-- how many fields an object of a kind has -/
def am_fn (k : Nat) : Nat := ((am_cls.map (fun q => q.2.2))[k]?).getD 0
/-- the cells in the order in which they are made: kind (a class, 12 bytes, 13 ints, 14 longs, 15 booleans) and length -/
def am_Tl : List (Nat × Nat) := [(10, 0), (12, 900), (3, 0), (13, 8), (13, 6), (13, 4), (13, 4), (5, 0), (4, 0), (13, 900), (13, 6), (13, 6), (4, 0), (13, 900), (13, 6), (13, 6), (13, 4), (1, 0), (7, 0), (13, 48), (13, 48), (7, 0), (13, 48), (13, 48), (7, 0), (13, 48), (13, 48), (7, 0), (13, 48), (13, 48), (8, 0), (13, 400), (13, 400), (13, 400), (13, 400), (13, 400), (13, 400), (13, 400), (13, 400), (13, 400), (15, 400), (0, 0), (13, 32), (13, 4), (13, 4), (1, 0), (7, 0), (13, 48), (13, 48), (7, 0), (13, 48), (13, 48), (7, 0), (13, 48), (13, 48), (7, 0), (13, 48), (13, 48), (8, 0), (13, 400), (13, 400), (13, 400), (13, 400), (13, 400), (13, 400), (13, 400), (13, 400), (13, 400), (15, 400), (0, 0), (13, 32), (13, 4), (6, 0), (13, 400), (13, 400), (13, 400), (2, 0), (13, 80), (9, 0), (13, 11), (11, 0), (13, 900), (13, 8), (13, 6), (13, 12), (13, 12), (13, 2000), (13, 2000), (13, 2000), (13, 4), (13, 4), (14, 4), (13, 400), (14, 400), (14, 400), (14, 400), (13, 400), (13, 400), (13, 400), (14, 64), (13, 64), (14, 8), (13, 8), (14, 48), (13, 48), (14, 20), (13, 20), (13, 3000), (13, 1000), (15, 400), (15, 400), (15, 400), (14, 400), (14, 400), (14, 400), (14, 80), (14, 11), (13, 3000), (13, 8421), (13, 8421), (13, 3), (14, 1)]
def am_T (a : Nat) : Nat × Nat := (am_Tl[a]?).getD (99, 0)
def am_size (q : Nat × Nat) : Nat := if q.1 < 12 then am_fn q.1 else q.2
def am_SL (n : Nat) : Nat := ((am_Tl.take n).map am_size).sum
/-- how many cells stand; how many were thrown away -/
def am_n (R : HR) : Nat := (R 1000 0).getD 0
def am_g (R : HR) : Nat := (R 1001 0).getD 0
def am_cc (R : HR) : Nat := am_n R + am_g R
def am_sc (R : HR) : Nat := am_SL (am_n R) + 8 * am_g R
def am_is (R : HR) (a k : Nat) : Prop := a < am_n R ∧ (am_T a).1 = k
/-- good words of the tables -/
def am_GW : List Cond := lw_tbl.filter goodWord
def am_in (w : Cond) : Prop := w ∈ am_GW
/-- the words on nest mates -/
def am_NW : List Cond := [.methodLinkNest "SlopeCompiler" 28 ⟨"SlopeCompiler$Program", "<init>", "()V"⟩ "SlopeCompiler", .methodLinkNest "SlopeCompiler" 42 ⟨"SlopeCompiler$Machine", "<init>", "()V"⟩ "SlopeCompiler", .methodLinkNest "SlopeCompiler$Machine" 11 ⟨"SlopeCompiler$Slots", "<init>", "()V"⟩ "SlopeCompiler", .methodLinkNest "SlopeCompiler$Machine" 29 ⟨"SlopeCompiler$Tape", "<init>", "()V"⟩ "SlopeCompiler", .methodLinkNest "SlopeCompiler$Machine" 36 ⟨"SlopeCompiler$Answers", "<init>", "()V"⟩ "SlopeCompiler", .methodLinkNest "SlopeCompiler" 55 ⟨"SlopeCompiler$Slopes", "<init>", "()V"⟩ "SlopeCompiler", .methodLinkNest "SlopeCompiler" 62 ⟨"SlopeCompiler$Matrix", "<init>", "()V"⟩ "SlopeCompiler", .methodLinkNest "SlopeCompiler" 69 ⟨"SlopeCompiler$Walk", "<init>", "()V"⟩ "SlopeCompiler", .methodLinkNest "SlopeCompiler" 339 ⟨"SlopeCompiler$Walk", "lay", "(III)V"⟩ "SlopeCompiler"]
def am_okM (N : MI) (n : Nat) : Prop := plainName N.1.cls = true ∧ am_in (.code N.1 N.2.1 N.2.2.1 N.2.2.2.1) ∧ am_in (.initialized N.1.cls) ∧ N.1.cls ≠ "java/lang/invoke/MethodHandle" ∧ N.1.cls ≠ "java/lang/invoke/VarHandle" ∧ (parseMethodDescriptor N.1.desc).map (fun d => d.parameters.length) = some n ∧ N.2.2.2.2.1 = N.1.cls ∧ N.2.2.1 ≤ 40
def am_lkV (own : String) (idx : Nat) (k : Nat) (N : MI) (n : Nat) : Prop := am_okM N n ∧ am_in (.methodLink own idx N.1) ∧ am_in (.instanceMethod N.1) ∧ am_in (.selects N.1.cls N.1 N.1) ∧ (am_cls[k]?).map (fun q => q.1) = some N.1.cls
def am_lkVN (own : String) (idx : Nat) (k : Nat) (N : MI) (n : Nat) : Prop := am_okM N n ∧ (∃ host, Cond.methodLinkNest own idx N.1 host ∈ am_NW) ∧ am_in (.instanceMethod N.1) ∧ am_in (.selects N.1.cls N.1 N.1) ∧ (am_cls[k]?).map (fun q => q.1) = some N.1.cls
def am_lkS (own : String) (idx : Nat) (N : MI) (n : Nat) : Prop := am_okM N n ∧ am_in (.methodLink own idx N.1) ∧ am_in (.static N.1)
def am_lkI (own : String) (idx : Nat) (N : MI) (n : Nat) : Prop := am_okM N n ∧ N.2.2.2.1 = none ∧ N.1.name = "<init>" ∧ am_in (.instanceMethod N.1) ∧ (am_in (.methodLink own idx N.1) ∨ ∃ host, Cond.methodLinkNest own idx N.1 host ∈ am_NW)
/-- a field: the k-th class, its j-th one -/
def am_lkF (own : String) (idx k j : Nat) : Prop := ∃ q : vw_C, am_cls[k]? = some q ∧ j < q.2.2 ∧ am_in (.fieldLink own idx (q.2.1 j).1 (q.2.1 j).2.1 (q.2.1 j).2.2.1)
def am_fin (k j : Nat) : Bool := ((am_cls.map (fun q => (q.2.1 j).2.2.2))[k]?).getD true
/-- what an instruction does to the stack alone -/
def am_op (i : Instr) (S : List Value) : Option (List Value) := match i, S with
  | .iconst n, S => some (.int (Int32.ofInt n) :: S)
  | .bipush n, S => some (.int ((Int8.ofInt n).toInt32) :: S)
  | .sipush n, S => some (.int ((Int16.ofInt n).toInt32) :: S)
  | .lconst n, S => some (.long (Int64.ofNat (n : Nat)) :: S)
  | .iadd, .int y :: .int x :: S => some (.int (x + y) :: S)
  | .isub, .int y :: .int x :: S => some (.int (x - y) :: S)
  | .imul, .int y :: .int x :: S => some (.int (x * y) :: S)
  | .iand, .int y :: .int x :: S => some (.int (x &&& y) :: S)
  | .ior, .int y :: .int x :: S => some (.int (x ||| y) :: S)
  | .ishl, .int y :: .int x :: S => some (.int (x <<< (y &&& 31)) :: S)
  | .ishr, .int y :: .int x :: S => some (.int (x >>> (y &&& 31)) :: S)
  | .iushr, .int y :: .int x :: S => some (.int ((x.toUInt32 >>> (y.toUInt32 &&& Int32.toUInt32 31)).toInt32) :: S)
  | .ladd, .long y :: .long x :: S => some (.long (x + y) :: S)
  | .lsub, .long y :: .long x :: S => some (.long (x - y) :: S)
  | .lmul, .long y :: .long x :: S => some (.long (x * y) :: S)
  | .lneg, .long x :: S => some (.long (-x) :: S)
  | .i2l, .int x :: S => some (.long x.toInt64 :: S)
  | .l2i, .long x :: S => some (.int x.toInt32 :: S)
  | .i2b, .int x :: S => some (.int x.toInt8.toInt32 :: S)
  | .lcmp, .long y :: .long x :: S => some (.int (lg_cmp x y) :: S)
  | .dup, .int x :: S => some (.int x :: .int x :: S)
  | .dup, .ref x :: S => some (.ref x :: .ref x :: S)
  | .dup2, .int y :: .ref x :: S => some (.int y :: .ref x :: .int y :: .ref x :: S)
  | .pop, .int _ :: S => some S
  | _, _ => none
def am_opn (i : Instr) : Nat := match i with
  | .bipush _ => 2
  | .sipush _ => 3
  | _ => 1
/-- which local an instruction loads, of which type (0 int, 1 long, 2 reference) -/
def am_ld (i : Instr) : Option (Nat × Nat) := match i with
  | .iload_n k => some ((k : Nat), 0)
  | .iload k => some (k, 0)
  | .lload_n k => some ((k : Nat), 1)
  | .lload k => some (k, 1)
  | .aload_n k => some ((k : Nat), 2)
  | .aload k => some (k, 2)
  | _ => none
def am_si (i : Instr) : Option (Nat × Nat) := match i with
  | .istore_n k => some ((k : Nat), 0)
  | .istore k => some (k, 0)
  | .lstore_n k => some ((k : Nat), 1)
  | .lstore k => some (k, 1)
  | .astore_n k => some ((k : Nat), 2)
  | .astore k => some (k, 2)
  | _ => none
def am_len (i : Instr) : Nat := match i with
  | .iload _ => 2
  | .lload _ => 2
  | .aload _ => 2
  | .istore _ => 2
  | .lstore _ => 2
  | .astore _ => 2
  | _ => 1
def am_tv (v : Value) : Nat := match v with
  | .int _ => 0
  | .long _ => 1
  | .ref _ => 2
  | _ => 3
def am_st (L : LV) (i : Nat) (v : Value) : LV := (i, v) :: L.filter (fun q => if v.category = 2 then !(q.1 == i) && (!(q.1 == i + 1) && !(q.1 + 1 == i && q.2.category == 2)) else !(q.1 == i) && !(q.1 + 1 == i && q.2.category == 2))
def am_cmp (c : ClassFile.Cond) (x y : Int32) : Prop := match c with
  | .eq => x = y
  | .ne => ¬ x = y
  | .lt => x < y
  | .ge => y ≤ x
  | .gt => y < x
  | .le => x ≤ y
def am_tab (pc : Nat) (dflt lo hi : Int) (offs : Array Int) (cs : List (Int32 × Nat)) (td : Nat) : Bool :=
  decide (cs.map (fun q => (q.1.toInt, (q.2 : Int))) = offs.toList.zipIdx.map (fun q => (lo + (q.2 : Int), (pc : Int) + q.1))) && decide (hi + 1 = lo + offs.size) && decide ((pc : Int) + dflt = td)
def am_lkp (pc : Nat) (dflt : Int) (ps : Array (Int × Int)) (cs : List (Int32 × Nat)) (td : Nat) : Bool :=
  decide (cs.map (fun q => (q.1.toInt, (q.2 : Int))) = ps.toList.map (fun q => (q.1, (pc : Int) + q.2))) && decide ((pc : Int) + dflt = td) && (ps.toList.zip (ps.toList.drop 1)).all (fun (a, next) => a.1 < next.1)
def am_room (Rm : Room) (c s : Nat) : Room := { Rm with cells := c, slots := s }
def am_cat (S : List Value) : Nat := (S.map fun v => v.category).sum
/-- THE RULES: what the predicate K of method M must be closed under; C: callees; X: the script's length and ints; R0: the references at the entry; Q: the end -/
def ru_op (M : MI) (K : KT) : Prop := ∀ (pc : Nat) (L : LV) (S S' : List Value) (I : HI) (J : HJ) (R : HR) (i : Instr) (n : Nat), decode M.2.1 pc = .ok (i, n) → am_opn i = n → am_op i S = some S' → K (pc + n) L S' I J R → K pc L S I J R
def ru_div (M : MI) (K : KT) : Prop := (∀ (pc : Nat) (L : LV) (S : List Value) (I : HI) (J : HJ) (R : HR) (x y : Int32), decode M.2.1 pc = .ok (.idiv, 1) → ¬ y = 0 → K (pc + 1) L (.int (x / y) :: S) I J R → K pc L (.int y :: .int x :: S) I J R)
  ∧ (∀ (pc : Nat) (L : LV) (S : List Value) (I : HI) (J : HJ) (R : HR) (x y : Int32), decode M.2.1 pc = .ok (.irem, 1) → ¬ y = 0 → K (pc + 1) L (.int (x - x / y * y) :: S) I J R → K pc L (.int y :: .int x :: S) I J R)
  ∧ (∀ (pc : Nat) (L : LV) (S : List Value) (I : HI) (J : HJ) (R : HR) (x y : Int64), decode M.2.1 pc = .ok (.ldiv, 1) → ¬ y = 0 → K (pc + 1) L (.long (x / y) :: S) I J R → K pc L (.long y :: .long x :: S) I J R)
  ∧ (∀ (pc : Nat) (L : LV) (S : List Value) (I : HI) (J : HJ) (R : HR) (x y : Int64), decode M.2.1 pc = .ok (.lrem, 1) → ¬ y = 0 → K (pc + 1) L (.long (x - x / y * y) :: S) I J R → K pc L (.long y :: .long x :: S) I J R)
def ru_ldc (M : MI) (K : KT) : Prop := (∀ (pc : Nat) (L : LV) (S : List Value) (I : HI) (J : HJ) (R : HR) (idx : Nat) (v : Int32), decode M.2.1 pc = .ok (.ldc idx, 2) → am_in (.constant M.2.2.2.2.1 idx v) → K (pc + 2) L (.int v :: S) I J R → K pc L S I J R)
  ∧ (∀ (pc : Nat) (L : LV) (S : List Value) (I : HI) (J : HJ) (R : HR) (idx : Nat) (v : Int32), decode M.2.1 pc = .ok (.ldc_w idx, 3) → am_in (.constant M.2.2.2.2.1 idx v) → K (pc + 3) L (.int v :: S) I J R → K pc L S I J R)
  ∧ (∀ (pc : Nat) (L : LV) (S : List Value) (I : HI) (J : HJ) (R : HR) (idx : Nat) (v : Int64), decode M.2.1 pc = .ok (.ldc2_w idx, 3) → am_in (.constantLong M.2.2.2.2.1 idx v) → K (pc + 3) L (.long v :: S) I J R → K pc L S I J R)
def ru_ld (M : MI) (K : KT) : Prop := ∀ (pc : Nat) (L : LV) (S : List Value) (I : HI) (J : HJ) (R : HR) (ins : Instr) (n i k t : Nat) (v : Value), decode M.2.1 pc = .ok (ins, n) → am_ld ins = some (i, t) → am_len ins = n → L[k]? = some (i, v) → am_tv v = t → K (pc + n) L (v :: S) I J R → K pc L S I J R
def ru_st (M : MI) (K : KT) : Prop := ∀ (pc : Nat) (L L' : LV) (S : List Value) (I : HI) (J : HJ) (R : HR) (ins : Instr) (n i t : Nat) (v : Value), decode M.2.1 pc = .ok (ins, n) → am_si ins = some (i, t) → am_len ins = n → am_tv v = t → i + 1 < M.2.2.1 + (if t = 1 then 0 else 1) → am_st L i v = L' → K (pc + n) L' S I J R → K pc L (v :: S) I J R
def ru_iinc (M : MI) (K : KT) : Prop := ∀ (pc : Nat) (L L' : LV) (S : List Value) (I : HI) (J : HJ) (R : HR) (i k : Nat) (c : Int) (x v : Int32), decode M.2.1 pc = .ok (.iinc i c, 3) → L[k]? = some (i, .int x) → i < M.2.2.1 → x + Int32.ofInt c = v → am_st L i (.int v) = L' → K (pc + 3) L' S I J R → K pc L S I J R
def ru_if (M : MI) (K : KT) : Prop := ∀ (pc : Nat) (L : LV) (S : List Value) (I : HI) (J : HJ) (R : HR) (c : ClassFile.Cond) (off : Int) (tgt : Nat) (x : Int32), decode M.2.1 pc = .ok (.ifCond c off, 3) → (pc : Int) + off = (tgt : Int) → (am_cmp c x 0 → K tgt L S I J R) → (¬ am_cmp c x 0 → K (pc + 3) L S I J R) → K pc L (.int x :: S) I J R
def ru_icmp (M : MI) (K : KT) : Prop := ∀ (pc : Nat) (L : LV) (S : List Value) (I : HI) (J : HJ) (R : HR) (c : ClassFile.Cond) (off : Int) (tgt : Nat) (x y : Int32), decode M.2.1 pc = .ok (.if_icmp c off, 3) → (pc : Int) + off = (tgt : Int) → (am_cmp c x y → K tgt L S I J R) → (¬ am_cmp c x y → K (pc + 3) L S I J R) → K pc L (.int y :: .int x :: S) I J R
def ru_goto (M : MI) (K : KT) : Prop := ∀ (pc : Nat) (L : LV) (S : List Value) (I : HI) (J : HJ) (R : HR) (off : Int) (tgt : Nat), decode M.2.1 pc = .ok (.goto off, 3) → (pc : Int) + off = (tgt : Int) → K tgt L S I J R → K pc L S I J R
def ru_sw (M : MI) (K : KT) : Prop := (∀ (pc : Nat) (L : LV) (S : List Value) (I : HI) (J : HJ) (R : HR) (dflt lo hi : Int) (offs : Array Int) (len td : Nat) (cs : List (Int32 × Nat)) (x : Int32), decode M.2.1 pc = .ok (.tableswitch dflt lo hi offs, len) → am_tab pc dflt lo hi offs cs td = true → (∀ q ∈ cs, x = q.1 → K q.2 L S I J R) → ((∀ q ∈ cs, ¬ x = q.1) → K td L S I J R) → K pc L (.int x :: S) I J R)
  ∧ (∀ (pc : Nat) (L : LV) (S : List Value) (I : HI) (J : HJ) (R : HR) (dflt : Int) (ps : Array (Int × Int)) (len td : Nat) (cs : List (Int32 × Nat)) (x : Int32), decode M.2.1 pc = .ok (.lookupswitch dflt ps, len) → am_lkp pc dflt ps cs td = true → (∀ q ∈ cs, x = q.1 → K q.2 L S I J R) → ((∀ q ∈ cs, ¬ x = q.1) → K td L S I J R) → K pc L (.int x :: S) I J R)
def ru_sub (K : KT) : Prop := ∀ (pc : Nat) (L L' : LV) (S : List Value) (I : HI) (J : HJ) (R : HR) (ks : List Nat), lv_pick L ks = L' → K pc L' S I J R → K pc L S I J R
def ru_get (M : MI) (K : KT) : Prop := (∀ (pc : Nat) (L : LV) (S : List Value) (I : HI) (J : HJ) (R : HR) (idx k j a : Nat), decode M.2.1 pc = .ok (.getfield idx, 3) → am_lkF M.2.2.2.2.1 idx k j → am_isR (am_ty k j) = false → am_is R a k → K (pc + 3) L (.int (I a j) :: S) I J R → K pc L (.ref a :: S) I J R)
  ∧ (∀ (pc : Nat) (L : LV) (S : List Value) (I : HI) (J : HJ) (R : HR) (idx k j a b : Nat), decode M.2.1 pc = .ok (.getfield idx, 3) → am_lkF M.2.2.2.2.1 idx k j → am_isR (am_ty k j) = true → am_is R a k → R a j = some b → K (pc + 3) L (.ref b :: S) I J R → K pc L (.ref a :: S) I J R)
def ru_put (M : MI) (K : KT) : Prop := (∀ (pc : Nat) (L : LV) (S : List Value) (I : HI) (J : HJ) (R : HR) (idx k j a : Nat) (x : Int32), decode M.2.1 pc = .ok (.putfield idx, 3) → am_lkF M.2.2.2.2.1 idx k j → am_isR (am_ty k j) = false → am_fin k j = false → fits (am_ty k j) (.int x) = true → am_is R a k → K (pc + 3) L S (up I a j x) J R → K pc L (.int x :: .ref a :: S) I J R)
  ∧ (∀ (pc : Nat) (L : LV) (S : List Value) (I : HI) (J : HJ) (R : HR) (idx k j a b : Nat), decode M.2.1 pc = .ok (.putfield idx, 3) → am_lkF M.2.2.2.2.1 idx k j → am_isR (am_ty k j) = true → (am_fin k j = false ∨ (M.1.name = "<init>" ∧ am_cls[k]?.map (fun q => (q.2.1 j).1) = some M.2.2.2.2.1)) → am_is R a k → K (pc + 3) L S I J (up R a j (some b)) → K pc L (.ref b :: .ref a :: S) I J R)
def ru_arr (M : MI) (X : Option (Nat × (Nat → Int32))) (K : KT) : Prop := (∀ (pc : Nat) (L : LV) (S : List Value) (I : HI) (J : HJ) (R : HR) (a : Nat) (i : Int32), decode M.2.1 pc = .ok (.iaload, 1) → am_is R a 13 → vp_in i (am_T a).2 → K (pc + 1) L (.int (I a i.toNatClampNeg) :: S) I J R → K pc L (.int i :: .ref a :: S) I J R)
  ∧ (∀ (pc : Nat) (L : LV) (S : List Value) (I : HI) (J : HJ) (R : HR) (a : Nat) (i : Int32), decode M.2.1 pc = .ok (.baload, 1) → (am_is R a 12 ∨ am_is R a 15) → vp_in i (am_T a).2 → K (pc + 1) L (.int (I a i.toNatClampNeg) :: S) I J R → K pc L (.int i :: .ref a :: S) I J R)
  ∧ (∀ (pc : Nat) (L : LV) (S : List Value) (I : HI) (J : HJ) (R : HR) (a : Nat) (i : Int32), decode M.2.1 pc = .ok (.laload, 1) → am_is R a 14 → vp_in i (am_T a).2 → K (pc + 1) L (.long (J a i.toNatClampNeg) :: S) I J R → K pc L (.int i :: .ref a :: S) I J R)
  ∧ (∀ (pc : Nat) (L : LV) (S : List Value) (I : HI) (J : HJ) (R : HR) (a : Nat) (i x : Int32), decode M.2.1 pc = .ok (.iastore, 1) → am_is R a 13 → vp_in i (am_T a).2 → K (pc + 1) L S (up I a i.toNatClampNeg x) J R → K pc L (.int x :: .int i :: .ref a :: S) I J R)
  ∧ (∀ (pc : Nat) (L : LV) (S : List Value) (I : HI) (J : HJ) (R : HR) (a : Nat) (i x : Int32), decode M.2.1 pc = .ok (.bastore, 1) → (am_is R a 12 ∧ x.toInt8.toInt32 = x ∨ am_is R a 15 ∧ (x = 0 ∨ x = 1)) → vp_in i (am_T a).2 → K (pc + 1) L S (up I a i.toNatClampNeg x) J R → K pc L (.int x :: .int i :: .ref a :: S) I J R)
  ∧ (∀ (pc : Nat) (L : LV) (S : List Value) (I : HI) (J : HJ) (R : HR) (a : Nat) (i : Int32) (x : Int64), decode M.2.1 pc = .ok (.lastore, 1) → am_is R a 14 → vp_in i (am_T a).2 → K (pc + 1) L S I (up J a i.toNatClampNeg x) R → K pc L (.long x :: .int i :: .ref a :: S) I J R)
  ∧ (∀ (pc : Nat) (L : LV) (S : List Value) (I : HI) (J : HJ) (R : HR) (a : Nat), decode M.2.1 pc = .ok (.arraylength, 1) → (am_is R a 12 ∨ am_is R a 13) → K (pc + 1) L (.int (Int32.ofNat (am_T a).2) :: S) I J R → K pc L (.ref a :: S) I J R)
  ∧ (∀ (pc : Nat) (L : LV) (S : List Value) (I : HI) (J : HJ) (R : HR) (i : Int32) (n : Nat) (xs : Nat → Int32), decode M.2.1 pc = .ok (.iaload, 1) → X = some (n, xs) → vp_in i n → K (pc + 1) L (.int (xs i.toNatClampNeg) :: S) I J R → K pc L (.int i :: .ref 999 :: S) I J R)
  ∧ (∀ (pc : Nat) (L : LV) (S : List Value) (I : HI) (J : HJ) (R : HR) (n : Nat) (xs : Nat → Int32), decode M.2.1 pc = .ok (.arraylength, 1) → X = some (n, xs) → K (pc + 1) L (.int (Int32.ofNat n) :: S) I J R → K pc L (.ref 999 :: S) I J R)
def am_fit (M N : MI) (R0 R : HR) : Prop := am_cc R + N.2.2.2.2.2.1 ≤ am_cc R0 + M.2.2.2.2.2.1 ∧ am_sc R + N.2.2.2.2.2.2 ≤ am_sc R0 + M.2.2.2.2.2.2
def ru_call (M : MI) (C : CT) (R0 : HR) (K : KT) : Prop := (∀ (pc : Nat) (L : LV) (S As St : List Value) (I : HI) (J : HJ) (R : HR) (idx k n a : Nat) (N : MI), decode M.2.1 pc = .ok (.invokevirtual idx, 3) → (am_lkV M.2.2.2.2.1 idx k N n ∨ am_lkVN M.2.2.2.2.1 idx k N n) → As.length = n → am_is R a k → am_cat S ≤ 8 → am_fit M N R0 R → St = As.reverse ++ .ref a :: S → C N (.ref a :: As) I J R (fun r I' J' R' => K (pc + 3) L (r.toList ++ S) I' J' R') → K pc L St I J R)
  ∧ (∀ (pc : Nat) (L : LV) (S As St : List Value) (I : HI) (J : HJ) (R : HR) (idx n : Nat) (N : MI), decode M.2.1 pc = .ok (.invokestatic idx, 3) → am_lkS M.2.2.2.2.1 idx N n → As.length = n → am_cat S ≤ 8 → am_fit M N R0 R → St = As.reverse ++ S → C N As I J R (fun r I' J' R' => K (pc + 3) L (r.toList ++ S) I' J' R') → K pc L St I J R)
  ∧ (∀ (pc : Nat) (L : LV) (S As St : List Value) (I : HI) (J : HJ) (R : HR) (idx n a : Nat) (N : MI), decode M.2.1 pc = .ok (.invokespecial idx, 3) → am_lkI M.2.2.2.2.1 idx N n → As.length = n → am_cat S ≤ 8 → am_fit M N R0 R → St = As.reverse ++ .ref a :: S → C N (.ref a :: As) I J R (fun r I' J' R' => K (pc + 3) L (r.toList ++ S) I' J' R') → K pc L St I J R)
  ∧ (∀ (pc : Nat) (L : LV) (S : List Value) (I : HI) (J : HJ) (R : HR) (idx a : Nat), decode M.2.1 pc = .ok (.invokespecial idx, 3) → am_in (.methodLink M.2.2.2.2.1 idx Lib.objectInit) → am_in (.instanceMethod Lib.objectInit) → am_in (.code Lib.objectInit ⟨#[0xb1]⟩ 1 none) → am_cat S ≤ 8 → K (pc + 3) L S I J R → K pc L (.ref a :: S) I J R)
def am_cp (I : HI) (a b : Nat) (sp dp n : Nat) : HI := fun c j => if c = b then va_cpy (I a) (I b) sp dp n j else I c j
def ru_copy (M : MI) (K : KT) : Prop := ∀ (pc : Nat) (L : LV) (S : List Value) (I : HI) (J : HJ) (R : HR) (idx a b : Nat) (sp dp n : Int32), decode M.2.1 pc = .ok (.invokestatic idx, 3) → am_in (.methodLink M.2.2.2.2.1 idx arraycopyName) → am_in (.native arraycopyName) → am_in (.static arraycopyName) → am_in (.initialized "java/lang/System") → am_is R a 13 → am_is R b 13 → am_cat S ≤ 8 → ¬ sp < 0 → ¬ dp < 0 → ¬ n < 0 → sp.toNatClampNeg + n.toNatClampNeg ≤ (am_T a).2 → dp.toNatClampNeg + n.toNatClampNeg ≤ (am_T b).2 → K (pc + 3) L S (am_cp I a b sp.toNatClampNeg dp.toNatClampNeg n.toNatClampNeg) J R → K pc L (.int n :: .int dp :: .ref b :: .int sp :: .ref a :: S) I J R
def am_ak (t : ArrayType) : Nat := match t with
  | .byte => 12
  | .int => 13
  | .long => 14
  | .boolean => 15
  | _ => 98
def ru_new (M : MI) (R0 : HR) (K : KT) : Prop := (∀ (pc : Nat) (L : LV) (S : List Value) (I : HI) (J : HJ) (R : HR) (idx k n : Nat) (q : vw_C), decode M.2.1 pc = .ok (.new idx, 3) → am_cls[k]? = some q → am_in (.classLink M.2.2.2.2.1 idx q.1) → am_in (.instantiable q.1 q.2.2) → am_in (.initialized q.1) → R 1000 0 = some n → am_g R = 0 → (am_T n).1 = k → (∀ j, I n j = 0) → (∀ j, R n j = none) → n < 900 → am_cc R + 1 ≤ am_cc R0 + M.2.2.2.2.2.1 → am_sc R + q.2.2 ≤ am_sc R0 + M.2.2.2.2.2.2 → K (pc + 3) L (.ref n :: S) I J (up R 1000 0 (some (n + 1))) → K pc L S I J R)
  ∧ (∀ (pc : Nat) (L : LV) (S : List Value) (I : HI) (J : HJ) (R : HR) (n len : Nat) (t : ArrayType) (c : Int32), decode M.2.1 pc = .ok (.newarray t, 2) → am_in (.arrayClass (newarray.typeOf t)) → R 1000 0 = some n → am_g R = 0 → am_T n = (am_ak t, len) → am_ak t < 20 → ¬ c < 0 → c.toNatClampNeg = len → len ≤ 10000 → (∀ j, I n j = 0) → (∀ j, J n j = 0) → n < 900 → am_cc R + 1 ≤ am_cc R0 + M.2.2.2.2.2.1 → am_sc R + len ≤ am_sc R0 + M.2.2.2.2.2.2 → K (pc + 2) L (.ref n :: S) I J (up R 1000 0 (some (n + 1))) → K pc L (.int c :: S) I J R)
def am_done (M : MI) (R0 R : HR) : Prop := am_g R = am_g R0 ∧ am_cc R = am_cc R0 + M.2.2.2.2.2.1 ∧ am_sc R = am_sc R0 + M.2.2.2.2.2.2
def ru_ret (M : MI) (R0 : HR) (Q : PQ) (K : KT) : Prop := (∀ (pc : Nat) (L : LV) (I : HI) (J : HJ) (R : HR) (x : Int32) (ty : FieldType), decode M.2.1 pc = .ok (.ireturn, 1) → M.2.2.2.1 = some ty → narrow ty (.int x) = .int x → am_done M R0 R → Q (some (.int x)) I J R → K pc L [.int x] I J R)
  ∧ (∀ (pc : Nat) (L : LV) (I : HI) (J : HJ) (R : HR) (x : Int64), decode M.2.1 pc = .ok (.lreturn, 1) → M.2.2.2.1 = some .long → am_done M R0 R → Q (some (.long x)) I J R → K pc L [.long x] I J R)
  ∧ (∀ (pc : Nat) (L : LV) (I : HI) (J : HJ) (R : HR), decode M.2.1 pc = .ok (.return_, 1) → M.2.2.2.1 = none → am_done M R0 R → Q none I J R → K pc L [] I J R)
def ru_math (M : MI) (R0 : HR) (K : KT) : Prop := (∀ (pc : Nat) (L : LV) (S : List Value) (I : HI) (J : HJ) (R : HR) (idx : Nat) (x y : Int32), decode M.2.1 pc = .ok (.invokestatic idx, 3) → am_in (.methodLink M.2.2.2.2.1 idx Lib.Math.max.name) → am_in (.static Lib.Math.max.name) → am_in (.initialized "java/lang/Math") → am_in (.code Lib.Math.max.name Lib.Math.max.code 2 (some .int)) → am_cat S ≤ 8 → am_cc R ≤ am_cc R0 + M.2.2.2.2.2.1 → am_sc R ≤ am_sc R0 + M.2.2.2.2.2.2 → K (pc + 3) L (.int (if x < y then y else x) :: S) I J R → K pc L (.int y :: .int x :: S) I J R)
  ∧ (∀ (pc : Nat) (L : LV) (S : List Value) (I : HI) (J : HJ) (R : HR) (idx : Nat) (x y : Int32), decode M.2.1 pc = .ok (.invokestatic idx, 3) → am_in (.methodLink M.2.2.2.2.1 idx Lib.Math.min.name) → am_in (.static Lib.Math.min.name) → am_in (.initialized "java/lang/Math") → am_in (.code Lib.Math.min.name Lib.Math.min.code 2 (some .int)) → am_cat S ≤ 8 → am_cc R ≤ am_cc R0 + M.2.2.2.2.2.1 → am_sc R ≤ am_sc R0 + M.2.2.2.2.2.2 → K (pc + 3) L (.int (if y < x then y else x) :: S) I J R → K pc L (.int y :: .int x :: S) I J R)
/-- K is closed under the rules of M -/
def am_R (M : MI) (C : CT) (X : Option (Nat × (Nat → Int32))) (R0 : HR) (Q : PQ) (K : KT) : Prop :=
  ru_op M K ∧ ru_div M K ∧ ru_ldc M K ∧ ru_ld M K ∧ ru_st M K ∧ ru_iinc M K ∧ ru_if M K ∧ ru_icmp M K ∧ ru_goto M K ∧ ru_sw M K ∧ ru_sub K ∧ ru_get M K ∧ ru_put M K ∧ ru_arr M X K ∧ ru_call M C R0 K ∧ ru_copy M K ∧ ru_new M R0 K ∧ ru_ret M R0 Q K ∧ ru_math M R0 K
def am_wid (As : List Value) : Nat := (lg_sl As).length
/-- what method M, called with these arguments on this heap, with at most d frames, comes to -/
def am_W : Nat → CT
  | 0 => fun _ _ _ _ _ _ => False
  | d + 1 => fun M args I J R Q => am_wid args ≤ M.2.2.1 ∧ ∀ K : KT, am_R M (am_W d) none R Q K → K 0 (lv_args 0 args) [] I J R
