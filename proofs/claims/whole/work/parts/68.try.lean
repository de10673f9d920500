/-! another INPUT tried: the class -/
section BO
variable {d : Nat} {I : HI} {J : HJ} {R : HR} {o : Nat} {G T : SP} {D : Nat → Nat} {N : Nat → List Nat} {inp : Nat → Nat} {x1 x2 x3 : Int32}
theorem t_onceG {s x : Nat} {Q : Int32 → HI → Prop} (hs : Stat R) (ho : isX9 o) (hao : o + 10 < 73) (h4 : G 3 2 ≤ 4) (hF : finT G T) (hT : tpR I o T (T 0 4)) (hok : okS G (T 0 4) s) (hx : x < 5000) (h : ∀ I', (∀ c, ¬ c = 73 → I' c = I c) → Q (nI (slo (slA T x (T 0 4)) x s)) I') : Wc fi (d + 5) M_X7_once [.ref 72, .ref o, .int (sI s), .int (nI x)] I J R Q := by
  have he := hF.1.2.2.2.1
  refine e_X7_once hs ho ?_
  refine e_X7_fillFirst hs ho ?_
  refine t_sfill hs ho (sc_73 hs) rfl hao h4 hF hT hx (fun I1 f1 g1 => ?_)
  refine t_sof (n := T 0 4) hs (sc_73 hs) rfl he (okS_n h4 hok) hx g1 (slA_no T x (T 0 4)) ?_
  exact h I1 f1
end BO
