/-! THE PARSER, as a function on a table P: P 0: 0 to 3 the TOKEN, 4 how many instructions, 5 LINES, 6 INPUTS, 7 VARIABLES, 8 ROWS, 9 CELLS, 10 open blocks, 11 whether in, row, alias are too late; P 1, 2, 3 the instructions; P 4 names of VARIABLES; P 5, 6, 7 ROWS: name, first CELL, CELLS; P 8, 9 open blocks: kind (0 loop, 1 if, 2 else), where it began. -/
def bd (r : RS) (f : SP → RS) : RS := match r with
  | .ok P => f P
  | .error e => .error e
def flt (k : Nat) (P : SP) : RS := .error (k, P 0 2)
def adv (B : Nat → Nat) (n : Nat) (P : SP) : SP := fun c j => if c = 0 ∧ j < 4 then tkF B n (P 0 3) j else P c j
def em (op a m : Nat) (P : SP) : SP := up (up (up (up P 1 (P 0 4) op) 2 (P 0 4) a) 3 (P 0 4) m) 0 4 (P 0 4 + 1)
def ownW (w : Nat) : Bool := decide (w = 257 ∨ w = 13550 ∨ w = 247552 ∨ w = 249 ∨ w = 107681 ∨ w = 4027 ∨ w = 11522)
def isNm (P : SP) : Bool := decide (P 0 0 = 1) && !ownW (P 0 1)
def isS (c : Nat) (P : SP) : Bool := decide (P 0 0 = 3 ∧ P 0 1 = c)
def fnd (f : Nat → Nat) (w : Nat) : Nat → Nat → Option Nat
  | 0, _ => none
  | m + 1, i => if f i = w then some i else fnd f w m (i + 1)
def rwO (P : SP) : Option Nat := fnd (P 5) (P 0 1) (P 0 8) 0
def vrO (P : SP) : Option Nat := fnd (P 4) (P 0 1) (P 0 7) 0
def nvr (P : SP) : SP := up (up P 4 (P 0 7) (P 0 1)) 0 7 (P 0 7 + 1)
def arw (w f z : Nat) (P : SP) : SP := up (up (up (up P 5 (P 0 8) w) 6 (P 0 8) f) 7 (P 0 8) z) 0 8 (P 0 8 + 1)
def opn (k : Nat) (P : SP) : SP := up (up (up P 8 (P 0 10) k) 9 (P 0 10) (P 0 4)) 0 10 (P 0 10 + 1)
def clo (c : Nat) (P : SP) (r : SP → RS) : RS := if isS c P = true then r P else flt 1 P
def facG (B : Nat → Nat) (n : Nat) (X : SP → RS) (P : SP) : RS :=
  if P 0 0 = 2 then (if P 0 1 ≤ 9999 then .ok (adv B n (em 0 (P 0 1) 0 P)) else flt 2 P)
  else if isNm P = true then
    (match rwO P with
     | some r => clo 91 (adv B n P) (fun P1 => bd (X P1) (fun P2 => clo 93 P2 (fun P2 => .ok (em 2 r 0 (adv B n P2)))))
     | none => (match vrO P with
       | some v => .ok (em 1 v 0 (adv B n P))
       | none => flt 1 P))
  else clo 40 P (fun P => bd (X P) (fun P2 => clo 41 P2 (fun P2 => .ok (adv B n P2))))
def prL (B : Nat → Nat) (n : Nat) (F : SP → RS) : Nat → SP → RS
  | 0, P => .ok P
  | m + 1, P => if isS 42 P = true then bd (F (adv B n P)) (fun P1 => prL B n F m (em 5 0 0 P1)) else if isS 47 P = true then bd (F (adv B n P)) (fun P1 => prL B n F m (em 6 0 0 P1)) else .ok P
def smL (B : Nat → Nat) (n : Nat) (F : SP → RS) : Nat → SP → RS
  | 0, P => .ok P
  | m + 1, P => if isS 43 P = true then bd (F (adv B n P)) (fun P1 => bd (prL B n F 901 P1) (fun P2 => smL B n F m (em 3 0 0 P2))) else if isS 45 P = true then bd (F (adv B n P)) (fun P1 => bd (prL B n F 901 P1) (fun P2 => smL B n F m (em 4 0 0 P2))) else .ok P
def exS (B : Nat → Nat) (n : Nat) (F : SP → RS) (P : SP) : RS := bd (F P) (fun P1 => bd (prL B n F 901 P1) (smL B n F 901))
def facS (B : Nat → Nat) (n : Nat) : Nat → SP → RS
  | 0 => facG B n (fun P => flt 2 P)
  | e + 1 => facG B n (fun P => exS B n (facS B n e) (adv B n P))
/-- an E -/
def eS (B : Nat → Nat) (n : Nat) (P : SP) : RS := exS B n (facS B n 8) P
def nnS (P : SP) (r : SP → RS) : RS := if isNm P = true then (if vrO P = none then (if rwO P = none then r P else flt 3 P) else flt 3 P) else flt 1 P
def numS (a b : Nat) (P : SP) (r : SP → RS) : RS := if P 0 0 = 2 then (if P 0 1 < a then flt 2 P else if P 0 1 ≤ b then r P else flt 2 P) else flt 1 P
def inS (B : Nat → Nat) (n : Nat) (P : SP) : RS := if P 0 6 = 4 then flt 2 P else nnS (adv B n P) (fun P1 => .ok (adv B n (up (nvr P1) 0 6 (P1 0 6 + 1))))
def rowS (B : Nat → Nat) (n : Nat) (P : SP) : RS := if P 0 8 = 6 then flt 2 P else nnS (adv B n P) (fun P1 => numS 1 8 (adv B n P1) (fun P2 => .ok (adv B n (up (arw (P1 0 1) (P2 0 9) (P2 0 1) P2) 0 9 (P2 0 9 + P2 0 1)))))
def aliS (B : Nat → Nat) (n : Nat) (P : SP) : RS := if P 0 8 = 6 then flt 2 P else nnS (adv B n P) (fun P1 =>
  if isNm (adv B n P1) = true then (match rwO (adv B n P1) with
    | some r => numS 0 (P1 7 r - 1) (adv B n (adv B n P1)) (fun P3 => .ok (adv B n (arw (P1 0 1) (P3 6 r + P3 0 1) (P3 7 r - P3 0 1) P3)))
    | none => flt 1 (adv B n P1))
  else flt 1 (adv B n P1))
/-- the VARIABLE that the TOKEN is, a new one perhaps -/
def tgS (P : SP) (r : Nat → SP → RS) : RS := match vrO P with
  | some v => r v P
  | none => if P 0 7 = 8 then flt 2 P else r (P 0 7) (nvr P)
def eqS (B : Nat → Nat) (n : Nat) (op a : Nat) (P : SP) : RS := clo 61 P (fun P => bd (eS B n (adv B n P)) (fun P1 => .ok (em op a 0 P1)))
def asS (B : Nat → Nat) (n : Nat) (P : SP) : RS := match rwO P with
  | some r => clo 91 (adv B n P) (fun P1 => bd (eS B n (adv B n P1)) (fun P2 => clo 93 P2 (fun P2 => eqS B n 8 r (adv B n P2))))
  | none => tgS P (fun v P1 => eqS B n 7 v (adv B n P1))
def lopS (B : Nat → Nat) (n : Nat) (P : SP) : RS := if P 0 10 = 4 then flt 2 P else
  if isNm (adv B n P) = true then (if rwO (adv B n P) = none then tgS (adv B n P) (fun v P1 => numS 1 20 (adv B n P1) (fun P2 => .ok (adv B n (em 10 v (P2 0 1) (opn 0 P2))))) else flt 1 (adv B n P)) else flt 1 (adv B n P)
def ifC (B : Nat → Nat) (n t : Nat) (P : SP) : RS := bd (eS B n (adv B n P)) (fun P2 => .ok (em t 0 0 (opn 1 P2)))
def ifS (B : Nat → Nat) (n : Nat) (P : SP) : RS := if P 0 10 = 4 then flt 2 P else bd (eS B n (adv B n P)) (fun P1 => if isS 60 P1 = true then ifC B n 12 P1 else clo 61 P1 (fun P1 => ifC B n 13 P1))
def pat (i : Nat) (P : SP) : SP := up P 2 i (P 0 4)
def elsS (B : Nat → Nat) (n : Nat) (P : SP) : RS := if P 0 10 = 0 then flt 1 P else if P 8 (P 0 10 - 1) = 1 then .ok (adv B n (pat (P 9 (P 0 10 - 1)) (em 14 0 0 (up (up P 8 (P 0 10 - 1) 2) 9 (P 0 10 - 1) (P 0 4))))) else flt 1 P
def endS (B : Nat → Nat) (n : Nat) (P : SP) : RS := if P 0 10 = 0 then flt 1 P else if P 8 (P 0 10 - 1) = 0 then .ok (adv B n (em 11 (P 9 (P 0 10 - 1) + 1) 0 (up P 0 10 (P 0 10 - 1)))) else .ok (adv B n (pat (P 9 (P 0 10 - 1)) (up P 0 10 (P 0 10 - 1))))
def outS (B : Nat → Nat) (n : Nat) (P : SP) : RS := bd (eS B n (adv B n P)) (fun P1 => .ok (em 9 0 0 P1))
def ltS (P : SP) (r : RS) : RS := if P 0 11 = 0 then r else flt 1 P
def lnS (B : Nat → Nat) (n : Nat) (P : SP) : RS :=
  if P 0 0 = 5 then ltS P (aliS B n P)
  else if P 0 0 = 1 then
    (if P 0 1 = 257 then ltS P (inS B n P)
     else if P 0 1 = 13550 then ltS P (rowS B n P)
     else if P 0 1 = 247552 then lopS B n (up P 0 11 1)
     else if P 0 1 = 249 then ifS B n (up P 0 11 1)
     else if P 0 1 = 107681 then elsS B n (up P 0 11 1)
     else if P 0 1 = 4027 then endS B n (up P 0 11 1)
     else if P 0 1 = 11522 then outS B n (up P 0 11 1)
     else asS B n (up P 0 11 1))
  else flt 1 P
def lsS (B : Nat → Nat) (n : Nat) : Nat → SP → RS
  | 0, P => .ok P
  | m + 1, P => if P 0 0 = 0 then (if P 0 10 = 0 then .ok P else flt 1 P) else bd (lnS B n P) (fun P1 => clo 59 P1 (fun P1 => lsS B n m (up (adv B n P1) 0 5 (P1 0 5 + 1))))
def paS (B : Nat → Nat) (n : Nat) : RS := lsS B n 901 (adv B n (fun _ _ => 0))
theorem adv_c {B : Nat → Nat} {n : Nat} {P : SP} {c : Nat} (h : ¬ c = 0) : adv B n P c = P c := by
  funext j
  simp [adv, h]
theorem adv_f {B : Nat → Nat} {n : Nat} {P : SP} {j : Nat} (h : 4 ≤ j) : adv B n P 0 j = P 0 j := by
  simp only [adv]
  rw [if_neg (by omega)]
theorem adv_t {B : Nat → Nat} {n : Nat} {P : SP} {j : Nat} (h : j < 4) : adv B n P 0 j = tkF B n (P 0 3) j := by
  simp only [adv]
  rw [if_pos ⟨trivial, h⟩]
theorem adv_up {B : Nat → Nat} {n : Nat} {P : SP} {c k v : Nat} (h : ¬ c = 0 ∨ 4 ≤ k) : adv B n (up P c k v) = up (adv B n P) c k v := by
  funext a j
  simp only [adv, up_ap]
  by_cases h1 : a = 0 ∧ j < 4
  · rw [if_pos h1, if_pos h1, if_neg (by omega), if_neg (by omega)]
  · rw [if_neg h1, if_neg h1]
theorem em_0 {op a m : Nat} {P : SP} {j : Nat} (h : ¬ j = 4) : em op a m P 0 j = P 0 j := by simp [em, up_ap, h]
theorem em_4 {op a m : Nat} {P : SP} : em op a m P 0 4 = P 0 4 + 1 := by simp [em, up_ap]
theorem em_c {op a m : Nat} {P : SP} {c : Nat} (h : 4 ≤ c) : em op a m P c = P c := by
  funext j
  simp only [em, up_ap]
  rw [if_neg (by omega), if_neg (by omega), if_neg (by omega), if_neg (by omega)]
theorem em_1 {op a m : Nat} {P : SP} {j : Nat} : em op a m P 1 j = if j = P 0 4 then op else P 1 j := by simp [em, up_ap]
theorem em_2 {op a m : Nat} {P : SP} {j : Nat} : em op a m P 2 j = if j = P 0 4 then a else P 2 j := by simp [em, up_ap]
theorem em_3 {op a m : Nat} {P : SP} {j : Nat} : em op a m P 3 j = if j = P 0 4 then m else P 3 j := by simp [em, up_ap]
theorem adv_em {B : Nat → Nat} {n op a m : Nat} {P : SP} : adv B n (em op a m P) = em op a m (adv B n P) := by
  simp only [em]
  rw [adv_up (Or.inr (by decide)), adv_up (Or.inl (by decide)), adv_up (Or.inl (by decide)), adv_up (Or.inl (by decide)), adv_f (by decide)]
theorem fnd_s {f : Nat → Nat} {w r : Nat} : ∀ {m i : Nat}, fnd f w m i = some r → i ≤ r ∧ r < i + m ∧ f r = w
  | 0, i, h => by simp [fnd] at h
  | m + 1, i, h => by
    simp only [fnd] at h
    split at h
    · rename_i hf
      cases h
      exact ⟨by omega, by omega, hf⟩
    · have := fnd_s h
      omega
theorem fnd_n {f : Nat → Nat} {w : Nat} : ∀ {m i : Nat}, fnd f w m i = none → ∀ j, i ≤ j → j < i + m → ¬ f j = w
  | 0, i, h, j, h1, h2 => by omega
  | m + 1, i, h, j, h1, h2 => by
    simp only [fnd] at h
    split at h
    · cases h
    · rename_i hf
      by_cases hj : j = i
      · rw [hj]; exact hf
      · exact fnd_n h j (by omega) (by omega)
theorem bd_ok {r : RS} {f : SP → RS} {P' : SP} (h : bd r f = .ok P') : ∃ P1, r = .ok P1 ∧ f P1 = .ok P' := by
  cases r with
  | ok P => exact ⟨P, rfl, h⟩
  | error e => simp [bd] at h
theorem clo_ok {c : Nat} {P P' : SP} {r : SP → RS} (h : clo c P r = .ok P') : isS c P = true ∧ r P = .ok P' := by
  simp only [clo] at h
  split at h
  · rename_i hs
    exact ⟨hs, h⟩
  · simp [flt] at h
theorem nnS_ok {P P' : SP} {r : SP → RS} (h : nnS P r = .ok P') : isNm P = true ∧ vrO P = none ∧ rwO P = none ∧ r P = .ok P' := by
  simp only [nnS] at h
  split at h
  · rename_i h1
    split at h
    · rename_i h2
      split at h
      · rename_i h3
        exact ⟨h1, h2, h3, h⟩
      · simp [flt] at h
    · simp [flt] at h
  · simp [flt] at h
theorem numS_ok {a b : Nat} {P P' : SP} {r : SP → RS} (h : numS a b P r = .ok P') : P 0 0 = 2 ∧ a ≤ P 0 1 ∧ P 0 1 ≤ b ∧ r P = .ok P' := by
  simp only [numS] at h
  split at h
  · rename_i h1
    split at h
    · simp [flt] at h
    · rename_i h2
      split at h
      · rename_i h3
        exact ⟨h1, by omega, h3, h⟩
      · simp [flt] at h
  · simp [flt] at h
theorem isS_t {c : Nat} {P : SP} (h : isS c P = true) : P 0 0 = 3 ∧ P 0 1 = c := of_decide_eq_true h
theorem isNm_t {P : SP} (h : isNm P = true) : P 0 0 = 1 := by
  simp only [isNm, Bool.and_eq_true, decide_eq_true_eq] at h
  exact h.1
