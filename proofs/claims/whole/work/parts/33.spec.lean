/-! THE RUN, as a function on a table T of whole numbers.
T 0: 0 at, 1 done, 2 stack, 3 OUTS, 4 ENTRIES, 5 TESTS, 6 so, 7 why it stops; T 1, 2 stack (values, sources); T 3, 4 VARIABLES; T 5, 6 CELLS; T 7, 8 OUTS;
T 9 kind, 10 instruction, 11 value, 12, 13 operands, 14, 15 their sources; T 16 PATH; T 17 how often a LOOP has been through; T 18 the INPUTS on which an ENTRY HANGS, as bits.
G: the program: G 0 which, G 1 operand, G 2 N of LOOP; G 3: 0 length, 1 LINES, 2 INPUTS, 3 VARIABLES, 4 ROWS, 5 CELLS; G 4, G 5 a ROW's first CELL, CELLS. A source: an ENTRY, 1000 and the INPUT, 5000 nothing. -/
abbrev SP : Type := Nat → Nat → Nat
theorem upc_ne {α : Type} {T : Nat → Nat → α} {c c' k : Nat} {v : α} (h : ¬ c = c') : up T c' k v c = T c := up_ne T c' k v h
theorem upc_eq {α : Type} {T : Nat → Nat → α} {c k : Nat} {v : α} : up T c k v c = fun j => if j = k then v else T c j := by
  funext j
  simp [up]
def stopR (G T : SP) : Nat :=
  if 3000 ≤ T 0 1 then 3
  else if G 0 (T 0 0) = 6 ∧ T 1 (T 0 2 - 1) = 0 then 1
  else if G 0 (T 0 0) = 2 ∧ ¬ T 1 (T 0 2 - 1) < G 5 (G 1 (T 0 0)) then 2
  else if G 0 (T 0 0) = 8 ∧ ¬ T 1 (T 0 2 - 2) < G 5 (G 1 (T 0 0)) then 2
  else if 3 ≤ G 0 (T 0 0) ∧ G 0 (T 0 0) ≤ 6 ∧ 400 ≤ T 0 4 then 4
  else if G 0 (T 0 0) = 9 ∧ 20 ≤ T 0 3 then 5 else 0
def pushT (T : SP) (v s : Nat) : SP := up (up (up T 1 (T 0 2) v) 2 (T 0 2) s) 0 2 (T 0 2 + 1)
def resO (op a b : Nat) : Nat := if op = 3 then mP (a + b) else if op = 4 then sP a b else if op = 5 then mP (a * b) else mP (a * ivP b)
theorem resO_lt (op a b : Nat) : resO op a b < 1000000007 := by
  simp only [resO]
  split
  · exact mP_lt _
  · split
    · exact sP_lt _ _
    · split <;> exact mP_lt _
/-- the INPUTS, as bits, on which a value of that source HANGS -/
def sbT (f : Nat → Nat) (s : Nat) : Nat := if s = 5000 then 0 else if 1000 ≤ s then 2 ^ (s - 1000) else f s
def enterT (G T : SP) : SP :=
  let e := T 0 4; let n := T 0 2; let op := G 0 (T 0 0)
  let T1 := up (up (up (up (up (up (up (up T 9 e op) 10 e (T 0 0)) 11 e (resO op (T 1 (n - 2)) (T 1 (n - 1)))) 12 e (T 1 (n - 2))) 13 e (T 1 (n - 1))) 14 e (T 2 (n - 2))) 15 e (T 2 (n - 1))) 18 e (sbT (T 18) (T 2 (n - 2)) ||| sbT (T 18) (T 2 (n - 1)))
  up (up (up (up T1 0 4 (e + 1)) 1 (n - 2) (resO op (T 1 (n - 2)) (T 1 (n - 1)))) 2 (n - 2) e) 0 2 (n - 1)
def testV (op a b : Nat) : Bool := if op = 12 then decide (sgZ a < sgZ b) else decide (a = b)
def testT (G T : SP) : SP :=
  let n := T 0 2; let r := testV (G 0 (T 0 0)) (T 1 (n - 2)) (T 1 (n - 1))
  up (up (up (up T 16 (T 0 5) (if r then 1 else 0)) 0 5 (T 0 5 + 1)) 0 6 (T 0 6 + (if r then 1 else 0))) 0 2 (n - 2)
/-- what the instruction does, but for at and done -/
def actT (G T : SP) : SP :=
  let op := G 0 (T 0 0); let a := G 1 (T 0 0); let n := T 0 2
  if op = 0 then pushT T a 5000
  else if op = 1 then pushT T (T 3 a) (T 4 a)
  else if op = 2 then up (up T 1 (n - 1) (T 5 (G 4 a + T 1 (n - 1)))) 2 (n - 1) (T 6 (G 4 a + T 1 (n - 1)))
  else if op ≤ 6 then enterT G T
  else if op = 7 then up (up (up T 3 a (T 1 (n - 1))) 4 a (T 2 (n - 1))) 0 2 (n - 1)
  else if op = 8 then up (up (up T 5 (G 4 a + T 1 (n - 2)) (T 1 (n - 1))) 6 (G 4 a + T 1 (n - 2)) (T 2 (n - 1))) 0 2 (n - 2)
  else if op = 9 then up (up (up (up T 7 (T 0 3) (T 1 (n - 1))) 8 (T 0 3) (T 2 (n - 1))) 0 3 (T 0 3 + 1)) 0 2 (n - 1)
  else if op = 10 then up (up (up T 3 a 0) 4 a 5000) 17 (T 0 0) 0
  else if op = 11 then
    (if T 17 (a - 1) + 1 = G 2 (a - 1) then up T 17 (a - 1) (T 17 (a - 1) + 1)
     else up (up (up T 17 (a - 1) (T 17 (a - 1) + 1)) 3 (G 1 (a - 1)) (T 17 (a - 1) + 1)) 4 (G 1 (a - 1)) 5000)
  else if op ≤ 13 then testT G T
  else T
/-- which instruction is next -/
def nextT (G T : SP) : Nat :=
  let op := G 0 (T 0 0); let a := G 1 (T 0 0); let n := T 0 2
  if op ≤ 10 then T 0 0 + 1
  else if op = 11 then (if T 17 (a - 1) + 1 = G 2 (a - 1) then T 0 0 + 1 else a)
  else if op ≤ 13 then (if testV op (T 1 (n - 2)) (T 1 (n - 1)) then T 0 0 + 1 else a)
  else a
def stepT (G T : SP) : SP := up (up (actT G T) 0 0 (nextT G T)) 0 1 (T 0 1 + 1)
def runT (G : SP) : Nat → SP → SP
  | 0, T => T
  | f + 1, T => if T 0 0 < G 3 0 then (if stopR G T = 0 then runT G f (stepT G T) else up T 0 7 (stopR G T)) else T
/-- a RUN's begin: the INPUTS' values -/
def startT (G : SP) (inp : Nat → Nat) : SP := fun c j =>
  if c = 3 then (if j < G 3 2 then inp j else 0) else if c = 4 then (if j < G 3 2 then 1000 + j else 5000) else if c = 6 then 5000 else 0
def theRun (G : SP) (inp : Nat → Nat) : SP := runT G 3001 (startT G inp)
/-- how deep the stack is ahead of each instruction, which LOOPS are open there (the innermost first) -/
def wfI (G : SP) (D : Nat → Nat) (N : Nat → List Nat) (i : Nat) : Prop :=
  (G 0 i = 0 ∧ D (i + 1) = D i + 1 ∧ G 1 i < 10000 ∧ N (i + 1) = N i)
  ∨ (G 0 i = 1 ∧ D (i + 1) = D i + 1 ∧ G 1 i < G 3 3 ∧ N (i + 1) = N i)
  ∨ (G 0 i = 2 ∧ 1 ≤ D i ∧ D (i + 1) = D i ∧ G 1 i < G 3 4 ∧ N (i + 1) = N i)
  ∨ (3 ≤ G 0 i ∧ G 0 i ≤ 6 ∧ 2 ≤ D i ∧ D (i + 1) + 1 = D i ∧ N (i + 1) = N i)
  ∨ (G 0 i = 7 ∧ D i = 1 ∧ D (i + 1) = 0 ∧ G 1 i < G 3 3 ∧ N (i + 1) = N i)
  ∨ (G 0 i = 8 ∧ D i = 2 ∧ D (i + 1) = 0 ∧ G 1 i < G 3 4 ∧ N (i + 1) = N i)
  ∨ (G 0 i = 9 ∧ D i = 1 ∧ D (i + 1) = 0 ∧ N (i + 1) = N i)
  ∨ (G 0 i = 10 ∧ D i = 0 ∧ D (i + 1) = 0 ∧ G 1 i < G 3 3 ∧ N (i + 1) = i :: N i ∧ 1 ≤ G 2 i ∧ G 2 i ≤ 20)
  ∨ (G 0 i = 11 ∧ D i = 0 ∧ D (i + 1) = 0 ∧ ∃ l, G 1 i = l + 1 ∧ l < i ∧ G 0 l = 10 ∧ N i = l :: N (i + 1) ∧ N (l + 1) = N i ∧ D (l + 1) = 0)
  ∨ ((G 0 i = 12 ∨ G 0 i = 13) ∧ D i = 2 ∧ D (i + 1) = 0 ∧ G 1 i ≤ G 3 0 ∧ D (G 1 i) = 0 ∧ N (G 1 i) = N i ∧ N (i + 1) = N i)
  ∨ (G 0 i = 14 ∧ D i = 0 ∧ D (i + 1) = 0 ∧ G 1 i ≤ G 3 0 ∧ D (G 1 i) = 0 ∧ N (G 1 i) = N i ∧ N (i + 1) = N i)
def wfG (G : SP) (D : Nat → Nat) (N : Nat → List Nat) : Prop :=
  (∀ i, i < G 3 0 → wfI G D N i) ∧ (∀ i, i ≤ G 3 0 → D i ≤ 40 ∧ (N i).length ≤ 4 ∧ ∀ x ∈ N i, x < i ∧ x < G 3 0 ∧ G 0 x = 10) ∧ D 0 = 0 ∧ N 0 = []
  ∧ G 3 0 ≤ 900 ∧ G 3 2 ≤ 4 ∧ G 3 2 ≤ G 3 3 ∧ G 3 3 ≤ 8 ∧ G 3 4 ≤ 6 ∧ G 3 5 ≤ 48 ∧ (∀ r, r < G 3 4 → G 4 r + G 5 r ≤ G 3 5) ∧ ∀ i, i < G 3 0 → G 1 i < 10000 ∧ G 2 i < 64
/-- a source that can be, with e ENTRIES -/
def okS (G : SP) (e s : Nat) : Prop := s = 5000 ∨ s < e ∨ (1000 ≤ s ∧ s < 1000 + G 3 2)
theorem okS_mono {G : SP} {e e' s : Nat} (h : e ≤ e') (hs : okS G e s) : okS G e' s := by
  simp only [okS] at hs ⊢
  omega
def okR (G : SP) (e : Nat) (f g : Nat → Nat) (n : Nat) : Prop := ∀ j, j < n → f j < 1000000007 ∧ okS G e (g j)
theorem okR_mono {G : SP} {e e' n n' : Nat} {f g : Nat → Nat} (he : e ≤ e') (hn : n' ≤ n) (h : okR G e f g n) : okR G e' f g n' := fun j hj => ⟨(h j (by omega)).1, okS_mono he (h j (by omega)).2⟩
theorem okR_set {G : SP} {e n k v s : Nat} {f g : Nat → Nat} (h : okR G e f g n) (hv : v < 1000000007) (hs : okS G e s) : okR G e (fun j => if j = k then v else f j) (fun j => if j = k then s else g j) n := by
  intro j hj
  by_cases hk : j = k
  · simp [hk, hv, hs]
  · simp [hk, h j hj]
theorem okR_push {G : SP} {e n v s : Nat} {f g : Nat → Nat} (h : okR G e f g n) (hv : v < 1000000007) (hs : okS G e s) : okR G e (fun j => if j = n then v else f j) (fun j => if j = n then s else g j) (n + 1) := by
  intro j hj
  by_cases hk : j = n
  · simp [hk, hv, hs]
  · simp [hk, h j (by omega)]
def okE (G T : SP) (e : Nat) : Prop := 3 ≤ T 9 e ∧ T 9 e ≤ 6 ∧ T 10 e < G 3 0 ∧ T 11 e = resO (T 9 e) (T 12 e) (T 13 e) ∧ T 12 e < 1000000007 ∧ T 13 e < 1000000007 ∧ okS G e (T 14 e) ∧ okS G e (T 15 e) ∧ T 18 e = sbT (T 18) (T 14 e) ||| sbT (T 18) (T 15 e)
/-- what holds all along -/
def invT (G : SP) (D : Nat → Nat) (N : Nat → List Nat) (T : SP) : Prop :=
  (T 0 0 ≤ G 3 0 ∧ T 0 2 = D (T 0 0) ∧ T 0 1 ≤ 3000 ∧ 3 * T 0 5 + T 0 2 ≤ T 0 1 ∧ T 0 4 ≤ 400 ∧ T 0 3 ≤ 20 ∧ T 0 6 ≤ T 0 5 ∧ T 0 7 = 0)
  ∧ okR G (T 0 4) (T 1) (T 2) (T 0 2) ∧ okR G (T 0 4) (T 3) (T 4) 1000 ∧ okR G (T 0 4) (T 5) (T 6) 1000 ∧ okR G (T 0 4) (T 7) (T 8) (T 0 3)
  ∧ (∀ e, e < T 0 4 → okE G T e) ∧ (∀ t, t < T 0 5 → T 16 t = 0 ∨ T 16 t = 1) ∧ (∀ l ∈ N (T 0 0), T 17 l < G 2 l ∧ G 2 l ≤ 20)
theorem stopR_0 {G T : SP} (h : stopR G T = 0) : T 0 1 < 3000 ∧ (G 0 (T 0 0) = 6 → ¬ T 1 (T 0 2 - 1) = 0) ∧ (G 0 (T 0 0) = 2 → T 1 (T 0 2 - 1) < G 5 (G 1 (T 0 0))) ∧ (G 0 (T 0 0) = 8 → T 1 (T 0 2 - 2) < G 5 (G 1 (T 0 0))) ∧ (3 ≤ G 0 (T 0 0) → G 0 (T 0 0) ≤ 6 → T 0 4 < 400) ∧ (G 0 (T 0 0) = 9 → T 0 3 < 20) := by
  simp only [stopR] at h
  split at h
  · cases h
  · rename_i h1
    split at h
    · cases h
    · rename_i h2
      split at h
      · cases h
      · rename_i h3
        split at h
        · cases h
        · rename_i h4
          split at h
          · cases h
          · rename_i h5
            split at h
            · cases h
            · rename_i h6
              refine ⟨by omega, fun e q => h2 ⟨e, q⟩, fun e => ?_, fun e => ?_, fun a b => ?_, fun e => ?_⟩
              · exact Classical.not_not.mp (fun q => h3 ⟨e, q⟩)
              · exact Classical.not_not.mp (fun q => h4 ⟨e, q⟩)
              · exact Nat.not_le.mp (fun q => h5 ⟨a, b, q⟩)
              · exact Nat.not_le.mp (fun q => h6 ⟨e, q⟩)
theorem stepT_c {G T : SP} {c : Nat} (h : ¬ c = 0) : stepT G T c = actT G T c := by
  simp only [stepT, upc_ne h]
theorem stepT_0 {G T : SP} {k : Nat} (h1 : ¬ k = 0) (h2 : ¬ k = 1) : stepT G T 0 k = actT G T 0 k := by
  simp [stepT, up, h1, h2]
theorem stepT_at {G T : SP} : stepT G T 0 0 = nextT G T := by simp [stepT, up]
theorem stepT_done {G T : SP} : stepT G T 0 1 = T 0 1 + 1 := by simp [stepT, up]
