/-! PRINTED BY wip/whole/gen_ask.py -/
section AK
variable {I : HI} {J : HJ} {R : HR}
theorem ask_fault {x1 : Int32} (h : TOP I J R) : asks M_X11_fault M_X12_fault [.int x1] I J R := by
  obtain ⟨G, D, N, inp, m, B, fk, fp, hA, hc, hm⟩ := h
  exact ask_go (V := faultV fk fp x1) hA hc hm (cw_p hc.1.1 (c_fault (d := 63) hc.1.1 (by rw [hc.2.2.2.2.2.1, hc.2.2.2.2.2.2]))) (fun I1 R1 hc hm => mw_c hm (m_fault (d := 63) hm.1.1 ⟨by rw [hm.2.2.2.2.1, hm.2.2.2.2.2.1], frA_z⟩))
theorem ask_row {x1 x2 : Int32} (h : TOP I J R) : asks M_X11_row M_X12_row [.int x1, .int x2] I J R := by
  obtain ⟨G, D, N, inp, m, B, fk, fp, hA, hc, hm⟩ := h
  exact ask_go (V := rowV G x1 x2) hA hc hm (cw_p hc.1.1 (c_row (d := 62) hA.1 hc.1 rfl)) (fun I1 R1 hc hm => mw_c hm (m_row (d := 62) hA.1 hm.1 ⟨rfl, frA_z⟩))
theorem ask_variable {x1 x2 : Int32} (h : TOP I J R) : asks M_X11_variable M_X12_variable [.int x1, .int x2] I J R := by
  obtain ⟨G, D, N, inp, m, B, fk, fp, hA, hc, hm⟩ := h
  exact ask_go (V := readV (theRun G inp 3) (theRun G inp 4) (G 3 3) x1 x2) hA hc hm (cw_p hc.1.1 (c_variable (d := 61) hA.1 hc.1 rfl)) (fun I1 R1 hc hm => mw_c hm (m_variable (d := 63) hA.1 hm.1 ⟨rfl, frA_z⟩))
theorem ask_cell {x1 x2 : Int32} (h : TOP I J R) : asks M_X11_cell M_X12_cell [.int x1, .int x2] I J R := by
  obtain ⟨G, D, N, inp, m, B, fk, fp, hA, hc, hm⟩ := h
  exact ask_go (V := readV (theRun G inp 5) (theRun G inp 6) (G 3 5) x1 x2) hA hc hm (cw_p hc.1.1 (c_cell (d := 61) hA.1 hc.1 rfl)) (fun I1 R1 hc hm => mw_c hm (m_cell (d := 63) hA.1 hm.1 ⟨rfl, frA_z⟩))
theorem ask_out {x1 x2 : Int32} (h : TOP I J R) : asks M_X11_out M_X12_out [.int x1, .int x2] I J R := by
  obtain ⟨G, D, N, inp, m, B, fk, fp, hA, hc, hm⟩ := h
  exact ask_go (V := readV (theRun G inp 7) (theRun G inp 8) (theRun G inp 0 3) x1 x2) hA hc hm (cw_p hc.1.1 (c_out (d := 61) (theRun_fin hA.1 (fun j hj => hA.2.1 j (by have := hA.1.2.2.2.2.2.1; omega))) hc.1 rfl)) (fun I1 R1 hc hm => mw_c hm (m_out (d := 62) (theRun_fin hA.1 (fun j hj => hA.2.1 j (by have := hA.1.2.2.2.2.2.1; omega))) hm.1 ⟨rfl, frA_z⟩))
theorem ask_run {x1 : Int32} (h : TOP I J R) : asks M_X11_run M_X12_run [.int x1] I J R := by
  obtain ⟨G, D, N, inp, m, B, fk, fp, hA, hc, hm⟩ := h
  exact ask_go (V := runV (theRun G inp) x1) hA hc hm (cw_p hc.1.1 (c_run (d := 63) (theRun_fin hA.1 (fun j hj => hA.2.1 j (by have := hA.1.2.2.2.2.2.1; omega))) hc.1 rfl)) (fun I1 R1 hc hm => mw_c hm (m_run (d := 63) hm.1 ⟨rfl, frA_z⟩))
theorem ask_path {x1 : Int32} (h : TOP I J R) : asks M_X11_path M_X12_path [.int x1] I J R := by
  obtain ⟨G, D, N, inp, m, B, fk, fp, hA, hc, hm⟩ := h
  exact ask_go (V := pathV (theRun G inp) x1) hA hc hm (cw_p hc.1.1 (c_path (d := 62) (theRun_fin hA.1 (fun j hj => hA.2.1 j (by have := hA.1.2.2.2.2.2.1; omega))) hc.1 rfl)) (fun I1 R1 hc hm => mw_c hm (m_path (d := 63) (theRun_fin hA.1 (fun j hj => hA.2.1 j (by have := hA.1.2.2.2.2.2.1; omega))) hm.1 ⟨rfl, frA_z⟩))
theorem ask_entry {x1 x2 : Int32} (h : TOP I J R) : asks M_X11_entry M_X12_entry [.int x1, .int x2] I J R := by
  obtain ⟨G, D, N, inp, m, B, fk, fp, hA, hc, hm⟩ := h
  exact ask_go (V := entryV (theRun G inp) x1 x2) hA hc hm (cw_c hc.1.1 (c_entry (d := 60) hA.1 (theRun_fin hA.1 (fun j hj => hA.2.1 j (by have := hA.1.2.2.2.2.2.1; omega))) hc.1 (fun I' f => ⟨rfl, f⟩))) (fun I1 R1 hc hm => mw_c hm (m_entry (d := 60) hA.1 (theRun_fin hA.1 (fun j hj => hA.2.1 j (by have := hA.1.2.2.2.2.2.1; omega))) hm.1 (fun I' f => ⟨rfl, f⟩)))
theorem ask_slope {x1 x2 : Int32} (h : TOP I J R) : asks M_X11_slope M_X12_slope [.int x1, .int x2] I J R := by
  obtain ⟨G, D, N, inp, m, B, fk, fp, hA, hc, hm⟩ := h
  exact ask_go (V := slopeV G (theRun G inp) x1 x2) hA hc hm (cw_c hc.1.1 (c_slope (d := 58) hA.1 (theRun_fin hA.1 (fun j hj => hA.2.1 j (by have := hA.1.2.2.2.2.2.1; omega))) hc.1 (fun I' f => ⟨rfl, f⟩))) (fun I1 R1 hc hm => mw_d hm (m_slope (d := 59) hA.1 (theRun_fin hA.1 (fun j hj => hA.2.1 j (by have := hA.1.2.2.2.2.2.1; omega))) hm.1 (fun I' J' f => ⟨rfl, f⟩)))
theorem ask_bar {x1 x2 : Int32} (h : TOP I J R) : asks M_X11_bar M_X12_bar [.int x1, .int x2] I J R := by
  obtain ⟨G, D, N, inp, m, B, fk, fp, hA, hc, hm⟩ := h
  exact ask_go (V := barV (theRun G inp) x1 x2) hA hc hm (cw_c hc.1.1 (c_bar (d := 58) hA.1 (theRun_fin hA.1 (fun j hj => hA.2.1 j (by have := hA.1.2.2.2.2.2.1; omega))) hc.1 (fun I' f => ⟨rfl, f⟩))) (fun I1 R1 hc hm => mw_d hm (m_bar (d := 59) hA.1 (theRun_fin hA.1 (fun j hj => hA.2.1 j (by have := hA.1.2.2.2.2.2.1; omega))) hm.1 (fun I' J' f => ⟨rfl, f⟩)))
theorem ask_second {x1 x2 x3 : Int32} (h : TOP I J R) : asks M_X11_second M_X12_second [.int x1, .int x2, .int x3] I J R := by
  obtain ⟨G, D, N, inp, m, B, fk, fp, hA, hc, hm⟩ := h
  exact ask_go (V := secondV G (theRun G inp) x1 x2 x3) hA hc hm (cw_c hc.1.1 (c_second (d := 58) hA.1 (theRun_fin hA.1 (fun j hj => hA.2.1 j (by have := hA.1.2.2.2.2.2.1; omega))) hc.1 (fun I' f => ⟨rfl, f⟩))) (fun I1 R1 hc hm => mw_d hm (m_second (d := 59) hA.1 (theRun_fin hA.1 (fun j hj => hA.2.1 j (by have := hA.1.2.2.2.2.2.1; omega))) hm.1 (fun I' J' f => ⟨rfl, f⟩)))
theorem ask_turned {x1 x2 x3 x4 x5 x6 : Int32} (h : TOP I J R) : asks M_X11_turned M_X12_turned [.int x1, .int x2, .int x3, .int x4, .int x5, .int x6] I J R := by
  obtain ⟨G, D, N, inp, m, B, fk, fp, hA, hc, hm⟩ := h
  exact ask_go (V := turnedV G (theRun G inp) x1 x2 x3 x4 x5 x6) hA hc hm (cw_c hc.1.1 (c_turned (d := 58) hA.1 (theRun_fin hA.1 (fun j hj => hA.2.1 j (by have := hA.1.2.2.2.2.2.1; omega))) hc.1 (fun I' f => ⟨rfl, f⟩))) (fun I1 R1 hc hm => mw_d hm (m_turned (d := 59) hA.1 (theRun_fin hA.1 (fun j hj => hA.2.1 j (by have := hA.1.2.2.2.2.2.1; omega))) hm.1 (fun I' J' f => ⟨rfl, f⟩)))
theorem ask_determinant {x1 : Int32} (h : TOP I J R) : asks M_X11_determinant M_X12_determinant [.int x1] I J R := by
  obtain ⟨G, D, N, inp, m, B, fk, fp, hA, hc, hm⟩ := h
  exact ask_go (V := detV G (theRun G inp) x1) hA hc hm (cw_c hc.1.1 (c_determinant (d := 58) hA.1 (theRun_fin hA.1 (fun j hj => hA.2.1 j (by have := hA.1.2.2.2.2.2.1; omega))) hc.1 (fun I' f => ⟨rfl, f⟩))) (fun I1 R1 hc hm => mw_d hm (m_determinant (d := 59) hA.1 (theRun_fin hA.1 (fun j hj => hA.2.1 j (by have := hA.1.2.2.2.2.2.1; omega))) hm.1 (fun I' J' f => ⟨rfl, f⟩)))
theorem ask_rank (h : TOP I J R) : asks M_X11_rank M_X12_rank [] I J R := by
  obtain ⟨G, D, N, inp, m, B, fk, fp, hA, hc, hm⟩ := h
  exact ask_go (V := rankV G (theRun G inp)) hA hc hm (cw_c hc.1.1 (c_rank (d := 58) hA.1 (theRun_fin hA.1 (fun j hj => hA.2.1 j (by have := hA.1.2.2.2.2.2.1; omega))) hc.1 (fun I' f => ⟨rfl, f⟩))) (fun I1 R1 hc hm => mw_d hm (m_rank (d := 59) hA.1 (theRun_fin hA.1 (fun j hj => hA.2.1 j (by have := hA.1.2.2.2.2.2.1; omega))) hm.1 (fun I' J' f => ⟨rfl, f⟩)))
theorem ask_newton {x1 x2 x3 : Int32} (h : TOP I J R) : asks M_X11_newton M_X12_newton [.int x1, .int x2, .int x3] I J R := by
  obtain ⟨G, D, N, inp, m, B, fk, fp, hA, hc, hm⟩ := h
  exact ask_go (V := newtonV G (theRun G inp) inp x1 x2 x3) hA hc hm (cw_r (c_newton (d := 56) hA.1 (theRun_fin hA.1 (fun j hj => hA.2.1 j (by have := hA.1.2.2.2.2.2.1; omega))) hc.1 hc.2.2.1 hA.2.1 (fun I' R' f k => ⟨rfl, f, k⟩))) (fun I1 R1 hc hm => mw_b hm (m_newton (d := 58) hA.1 rfl hm.1 hm.2.1 hA.2.1 (fun I' J' g f k => ⟨rfl, g, f, k⟩)))
theorem ask_change {x1 x2 x3 : Int32} (h : TOP I J R) : asks M_X11_change M_X12_change [.int x1, .int x2, .int x3] I J R := by
  obtain ⟨G, D, N, inp, m, B, fk, fp, hA, hc, hm⟩ := h
  exact ask_go (V := changeV G (theRun G inp) inp x1 x2 x3) hA hc hm (cw_r (c_change (d := 56) hA.1 (theRun_fin hA.1 (fun j hj => hA.2.1 j (by have := hA.1.2.2.2.2.2.1; omega))) hc.1 hc.2.2.1 hA.2.1 (fun I' R' f k => ⟨rfl, f, by rcases k with rfl | ⟨p, _, _, rfl⟩ <;> first | exact frK_rf hc.1.1 | exact frK_up (frK_rf hc.1.1)⟩))) (fun I1 R1 hc hm => mw_b hm (m_change (d := 58) hA.1 rfl hm.1 hm.2.1 hA.2.1 (fun I' J' g f k => ⟨rfl, g, f, k⟩)))
theorem ask_degree {x1 x2 : Int32} (h : TOP I J R) : asks M_X11_degree M_X12_degree [.int x1, .int x2] I J R := by
  obtain ⟨G, D, N, inp, m, B, fk, fp, hA, hc, hm⟩ := h
  exact ask_go (V := degreeV G (theRun G inp) inp x1 x2) hA hc hm (cw_r (c_degree (d := 56) hA.1 (theRun_fin hA.1 (fun j hj => hA.2.1 j (by have := hA.1.2.2.2.2.2.1; omega))) hc.1 hc.2.2.1 hA.2.1 (fun I' R' f k => ⟨rfl, f, k⟩))) (fun I1 R1 hc hm => mw_b hm (m_degree (d := 58) hA.1 rfl hm.1 hm.2.1 hA.2.1 (fun I' J' g f k => ⟨rfl, g, f, k⟩)))
theorem ask_bends {x1 : Int32} (h : TOP I J R) : asks M_X11_bends M_X12_bends [.int x1] I J R := by
  obtain ⟨G, D, N, inp, m, B, fk, fp, hA, hc, hm⟩ := h
  exact ask_go (V := bendsV G (theRun G inp) inp x1) hA hc hm (cw_r (c_bends (d := 56) hA.1 (theRun_fin hA.1 (fun j hj => hA.2.1 j (by have := hA.1.2.2.2.2.2.1; omega))) rfl hc.1 hc.2.2.1 hA.2.1 (fun I' R' f k => ⟨rfl, f, k⟩))) (fun I1 R1 hc hm => mw_b hm (m_bends (d := 58) hA.1 rfl hm.1 hm.2.1 hA.2.1 (fun I' J' g f k => ⟨rfl, g, f, k⟩)))
theorem ask_hangs {x1 x2 x3 : Int32} (h : TOP I J R) : asks M_X11_hangs M_X12_hangs [.int x1, .int x2, .int x3] I J R := by
  obtain ⟨G, D, N, inp, m, B, fk, fp, hA, hc, hm⟩ := h
  exact ask_go (V := hangsV G (theRun G inp) x1 x2 x3) hA hc hm (cw_c hc.1.1 (c_hangs (d := 61) hA.1 (theRun_fin hA.1 (fun j hj => hA.2.1 j (by have := hA.1.2.2.2.2.2.1; omega))) hc.1 (fun I' f => ⟨rfl, f⟩))) (fun I1 R1 hc hm => mw_c hm (m_hangs (d := 61) hA.1 (theRun_fin hA.1 (fun j hj => hA.2.1 j (by have := hA.1.2.2.2.2.2.1; omega))) hm.1 (fun I' f => ⟨rfl, f⟩)))
theorem ask_back {x1 x2 : Int32} (h : TOP I J R) : asks M_X11_back M_X12_back [.int x1, .int x2] I J R := by
  obtain ⟨G, D, N, inp, m, B, fk, fp, hA, hc, hm⟩ := h
  exact ask_go (V := backV (theRun G inp) x1 x2) hA hc hm (cw_c hc.1.1 (c_back (d := 61) hA.1 (theRun_fin hA.1 (fun j hj => hA.2.1 j (by have := hA.1.2.2.2.2.2.1; omega))) hc.1 (fun I' f => ⟨rfl, f⟩))) (fun I1 R1 hc hm => mw_c hm (m_back (d := 61) hA.1 (theRun_fin hA.1 (fun j hj => hA.2.1 j (by have := hA.1.2.2.2.2.2.1; omega))) hm.1 (fun I' f => ⟨rfl, f⟩)))
theorem ask_cost {x1 x2 : Int32} (h : TOP I J R) : asks M_X11_cost M_X12_cost [.int x1, .int x2] I J R := by
  obtain ⟨G, D, N, inp, m, B, fk, fp, hA, hc, hm⟩ := h
  exact ask_go (V := costV G (theRun G inp) x1 x2) hA hc hm (cw_c hc.1.1 (c_cost (d := 60) hA.1 (theRun_fin hA.1 (fun j hj => hA.2.1 j (by have := hA.1.2.2.2.2.2.1; omega))) hc.1 (fun I' f => ⟨rfl, f⟩))) (fun I1 R1 hc hm => mw_c hm (m_cost (d := 60) hA.1 (theRun_fin hA.1 (fun j hj => hA.2.1 j (by have := hA.1.2.2.2.2.2.1; omega))) hm.1 (fun I' f => ⟨rfl, f⟩)))
theorem ask_few {x1 x2 : Int32} (h : TOP I J R) : asks M_X11_few M_X12_few [.int x1, .int x2] I J R := by
  obtain ⟨G, D, N, inp, m, B, fk, fp, hA, hc, hm⟩ := h
  exact ask_go (V := fewV x1 x2) hA hc hm (cw_p hc.1.1 (c_few (d := 62) hc.1.1 rfl)) (fun I1 R1 hc hm => mw_f hm (m_few (d := 61) hm.1.1 hm.2.2.2.2.2.2 (fun I' f k => ⟨rfl, f, k⟩)))
theorem ask_split {x1 x2 : Int32} (h : TOP I J R) : asks M_X11_split M_X12_split [.int x1, .int x2] I J R := by
  obtain ⟨G, D, N, inp, m, B, fk, fp, hA, hc, hm⟩ := h
  exact ask_go (V := splitV x1 x2) hA hc hm (cw_p hc.1.1 (c_split (d := 61) hc.1.1 rfl)) (fun I1 R1 hc hm => mw_f hm (m_split (d := 61) hm.1.1 hm.2.2.2.2.2.2 (fun I' f k => ⟨rfl, f, k⟩)))
theorem ask_states {x1 x2 : Int32} (h : TOP I J R) : asks M_X11_states M_X12_states [.int x1, .int x2] I J R := by
  obtain ⟨G, D, N, inp, m, B, fk, fp, hA, hc, hm⟩ := h
  exact ask_go (V := statesV x1 x2) hA hc hm (cw_p hc.1.1 (c_states (d := 62) hc.1.1 rfl)) (fun I1 R1 hc hm => mw_f hm (m_states (d := 61) hm.1.1 hm.2.2.2.2.2.2 (fun I' f k => ⟨rfl, f, k⟩)))
theorem ask_action {x1 x2 x3 x4 : Int32} (h : TOP I J R) : asks M_X11_action M_X12_action [.int x1, .int x2, .int x3, .int x4] I J R := by
  obtain ⟨G, D, N, inp, m, B, fk, fp, hA, hc, hm⟩ := h
  exact ask_go (V := actionV x1 x2 x3 x4) hA hc hm (cw_c hc.1.1 (c_action (d := 40) hc.1.1 (fun I' f => ⟨rfl, f⟩))) (fun I1 R1 hc hm => mw_f hm (m_action (d := 0) hm.1.1 hm.2.2.2.2.2.2 (fun I' f k => ⟨rfl, f, k⟩)))
theorem ask_actions {x1 x2 x3 : Int32} (h : TOP I J R) : asks M_X11_actions M_X12_actions [.int x1, .int x2, .int x3] I J R := by
  obtain ⟨G, D, N, inp, m, B, fk, fp, hA, hc, hm⟩ := h
  exact ask_go (V := actionsV x1 x2 x3) hA hc hm (cw_c hc.1.1 (c_actions (d := 40) hc.1.1 (fun I' f => ⟨rfl, f⟩))) (fun I1 R1 hc hm => mw_f hm (m_actions (d := 0) hm.1.1 hm.2.2.2.2.2.2 (fun I' f k => ⟨rfl, f, k⟩)))
theorem ask_fraction {x1 x2 : Int32} (h : TOP I J R) : asks M_X11_fraction M_X12_fraction [.int x1, .int x2] I J R := by
  obtain ⟨G, D, N, inp, m, B, fk, fp, hA, hc, hm⟩ := h
  exact ask_go (V := fractionV x1 x2) hA hc hm (cw_p hc.1.1 (c_fraction (d := 62) hc.1.1 rfl)) (fun I1 R1 hc hm => mw_c hm (m_fraction (d := 62) hm.1.1 ⟨rfl, frA_z⟩))
theorem ask_count {x1 : Int32} (h : TOP I J R) : asks M_X11_count M_X12_count [.int x1] I J R := by
  obtain ⟨G, D, N, inp, m, B, fk, fp, hA, hc, hm⟩ := h
  exact ask_go (V := countV G (nI m) x1) hA hc hm (cw_p hc.1.1 (c_count (d := 63) hc.1 (by rw [hc.2.2.2.1]))) (fun I1 R1 hc hm => mw_c hm (m_count (d := 63) hm.1 ⟨by rw [hm.2.2.1], frA_z⟩))
end AK
