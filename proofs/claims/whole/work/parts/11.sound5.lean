section AMV
variable {p : Program} {l : Launch} {e : Env} {Rm : Room} {s : State} {m : MethodId} {args : Array Value} {below : List Frame} {meth : Method} {c : Code} {Qf : Nat → Nat → State → Prop} {base b : Nat} {cy : Nat → ClassId} {D : va_G} {M : MI} {R0 : HR} {d : Nat}
def am_wsM (N : MI) : List Cond := .code N.1 N.2.1 N.2.2.1 N.2.2.2.1 :: am_GW
def am_rm (N : MI) (d : Nat) : Room := { frames := d, cells := N.2.2.2.2.2.1, slots := N.2.2.2.2.2.2, locals := 64 * d }
def am_Pc (base b : Nat) (cy : Nat → ClassId) (D : va_G) (I : HI) (J : HJ) (R : HR) (U : State) : Prop :=
  am_Wd base b cy D I J R U.heap ∧ va_K D am_cls (am_tys cy) U ∧ (∀ w ∈ am_NW, va_Nw w U) ∧ base ≤ U.heap.size ∧ (am_g R = 0 → U.heap.size = base + am_n R)
def am_nr (r : Option Value) : Prop := r = none ∨ (∃ x : Int32, r = some (.int x)) ∨ ∃ x : Int64, r = some (.long x)
def am_QC (base b : Nat) (cy : Nat → ClassId) (D : va_G) (Q : PQ) (R : HR) (N : MI) : Array Value → State → Outcome → State → Prop := fun _ st oc t =>
  (∃ (r : Option Value) (I' : HI) (J' : HJ) (R' : HR), oc = .returned r ∧ am_nr r ∧ Q r I' J' R' ∧ am_cc R' = am_cc R + N.2.2.2.2.2.1 ∧ am_sc R' = am_sc R + N.2.2.2.2.2.2 ∧ am_g R ≤ am_g R' ∧ am_Wd base b cy D I' J' R' t.heap) ∧ va_F (fun q => base ≤ q) st t
/-- the contract of a method -/
def am_Met (l : Launch) (d : Nat) (N : MI) (As : List Value) (I : HI) (J : HJ) (R : HR) (Q : PQ) : Prop := ∀ (base b : Nat) (cy : Nat → ClassId) (D : va_G),
  Met l N.1 (am_wsM N) (am_rm N d) (va_Pc (As.map (am_cv base b)) (am_Pc base b cy D I J R)) (am_QC base b cy D Q R N) N.2.2.2.2.2.1 N.2.2.2.2.2.2 (fun q => base ≤ q)
theorem am_NW_form {w : Cond} (hw : w ∈ am_NW) : ∃ a1 a2 a3 a4, w = Cond.methodLinkNest a1 a2 a3 a4 := by
  simp only [am_NW] at hw
  simp at hw
  rcases hw with rfl | rfl | rfl | rfl | rfl | rfl | rfl | rfl | rfl <;> exact ⟨_, _, _, _, rfl⟩
theorem am_blind (base b : Nat) (cy : Nat → ClassId) (D : va_G) (I : HI) (J : HJ) (R : HR) (As : List Value) : FrameBlind (va_Pc As (am_Pc base b cy D I J R)) := by
  intro a U g mk ⟨h0, h1, h2, h3, h4, h5⟩
  exact ⟨h0, h1, va_K.moved (u := U) (U := U.calling g mk a) (Vm.Alike.refl U.vm) h2, fun w hw => by obtain ⟨a1, a2, a3, a4, rfl⟩ := am_NW_form hw; exact va_Nw.same rfl rfl (h3 _ hw), h4, h5⟩
theorem am_gin (N : MI) (h : am_in (.code N.1 N.2.1 N.2.2.1 N.2.2.2.1)) : GoodIn am_GW (am_wsM N) := by
  intro w hw
  rcases List.mem_cons.mp hw with rfl | hw
  · exact am_in_good h
  · exact am_in_good hw
/-- behind a call, whatever it answers -/
theorem am_callg {pc : Nat} {ls : Array Slot} {rest st0 : List Value} {a : Array Value} {H : Heap} {locs : List Loc} {cells slots : Nat} {Q : State → Prop} {N : MI} {Qn : PQ} {R : HR}
    (hr : va_Run p l e Rm s m args below meth c H locs cells slots N.2.2.2.2.2.1 N.2.2.2.2.2.2 (F0 m pc ls st0) rest (am_QC base b cy D Qn R N a) (fun q => base ≤ q)) (hS : va_S (fun q => base ≤ q) s.heap H locs)
    (kk : ∀ (r : Option Value) (I' : HI) (J' : HJ) (R' : HR) (H1 : Heap) (locs1 : List Loc), am_nr r → Qn r I' J' R' → am_cc R' = am_cc R + N.2.2.2.2.2.1 → am_sc R' = am_sc R + N.2.2.2.2.2.2 → am_g R ≤ am_g R' → am_Wd base b cy D I' J' R' H1 → va_S (fun q => base ≤ q) s.heap H1 locs1 → W p l e Rm s m args below meth c H1 locs1 (cells + N.2.2.2.2.2.1) (slots + N.2.2.2.2.2.2) Q (F0 m (pc + 3) ls (r.toList ++ rest))) :
    W p l e Rm s m args below meth c H locs cells slots Q (F0 m pc ls st0) := by
  intro T hT X
  obtain ⟨v, st₀, t, T', L, h0, X', hL, e1, e2, ⟨⟨r, I', J', R', hv, hnr, hq, hc1, hc2, hg, hw⟩, hz, hk⟩, st⟩ := hr T hT X
  cases hv
  rw [h0] at hz hk
  obtain ⟨t2, a1, b1⟩ := kk v I' J' R' T'.heap (locs ++ L) hnr hq hc1 hc2 hg (by rw [e1]; exact hw)
    ⟨Nat.le_trans hS.1 (by rw [e1]; exact hz), fun q h1 h2 => by rw [e1, hk q (Nat.lt_of_lt_of_le h1 hS.1) h2]; exact hS.2.1 q h1 h2, fun q hq => by
      rcases List.mem_append.mp hq with h | h
      · exact hS.2.2 q h
      · exact hL q h⟩ T' rfl X'
  exact ⟨t2, st t2 a1, b1⟩
theorem am_nr_map {r : Option Value} (h : am_nr r) (S : List Value) : (r.toList ++ S).map (am_cv base b) = r.toList ++ S.map (am_cv base b) := by
  rcases h with rfl | ⟨x, rfl⟩ | ⟨x, rfl⟩ <;> rfl
theorem am_catmap (S : List Value) : ((S.map (am_cv base b)).map fun v => v.category).sum = am_cat S := by
  simp only [am_cat, List.map_map]
  congr 1
  apply List.map_congr_left
  intro v _
  simp [am_cv_cat]
/-- how many cells there are at most -/
theorem am_szW {H : Heap} {locs : List Loc} {cells slots : Nat} {Q : State → Prop} {g : JFrame} (h : H.size ≤ s.heap.size + cells → W p l e Rm s m args below meth c H locs cells slots Q g) : W p l e Rm s m args below meth c H locs cells slots Q g := by
  intro T hT X
  exact h (by rw [← hT]; exact X.heapSize) T hT X
theorem am_size_ge {I : HI} {J : HJ} {R : HR} {H : Heap} {locs : List Loc} (h : am_Wd base b cy D I J R H) (hS : va_S (fun q => base ≤ q) s.heap H locs) (hb : base ≤ s.heap.size) : base + am_n R ≤ H.size := by
  cases hn : am_n R with
  | zero => have := hS.1; omega
  | succ n =>
    have h1 := (h.1 n _ (am_ws_get (by omega))).lt
    simp only at h1
    omega
theorem am_size_eq {I : HI} {J : HJ} {R : HR} {H : Heap} {locs : List Loc} {cells slots : Nat} (h : am_Wd base b cy D I J R H) (hS : va_S (fun q => base ≤ q) s.heap H locs) (hb : base ≤ s.heap.size) (hb0 : am_g R0 = 0 → s.heap.size = base + am_n R0) (hc : am_ct R0 R cells slots) (hle : H.size ≤ s.heap.size + cells) (hg : am_g R = 0) : H.size = base + am_n R := by
  have h1 := am_size_ge h hS hb
  obtain ⟨c1, c2, c3⟩ := hc
  have hg0 : am_g R0 = 0 := by omega
  have h2 := hb0 hg0
  simp only [am_cc] at c1
  omega
theorem s_call {C : CT} (hC : ∀ (N : MI) (n : Nat) (As : List Value) (I : HI) (J : HJ) (R : HR) (Q : PQ), am_okM N n → C N As I J R Q → am_Met l d N As I J R Q) (X : am_Cx d M p Rm s m args meth c base cy D R0) : ru_call M C R0 (am_K0 p l e Rm s m args below meth c Qf base b cy D M R0) := by
  obtain ⟨hx, hb, hml, hown, hts, hNW, hK, ⟨hfr, hlo, hce, hsl⟩, ⟨hbase, hb0⟩, hin⟩ := X
  have room : ∀ (N : MI) (n : Nat), am_okM N n → (am_rm N d).frames + 1 ≤ Rm.frames ∧ 8 + (N.2.2.1 + 11) + (am_rm N d).locals ≤ Rm.locals := by
    intro N n h
    have h8 := h.2.2.2.2.2.2.2
    simp only [am_rm]
    omega
  have fit : ∀ (N : MI) (R : HR) (cells slots : Nat), am_fit M N R0 R → am_ct R0 R cells slots → cells + N.2.2.2.2.2.1 ≤ Rm.cells ∧ slots + N.2.2.2.2.2.2 ≤ Rm.slots := by
    intro N R cells slots ⟨f1, f2⟩ ⟨c1, c2, c3⟩
    omega
  have pre : ∀ {I : HI} {J : HJ} {R : HR} {H : Heap} {locs : List Loc} {cells slots : Nat} (As : List Value), am_Wd base b cy D I J R H → va_S (fun q => base ≤ q) s.heap H locs → am_ct R0 R cells slots → H.size ≤ s.heap.size + cells → ∀ U : State, U.heap = H → s.WarmedH U.vm → va_Pc (As.map (am_cv base b)) (am_Pc base b cy D I J R) (As.map (am_cv base b)).toArray U := by
    intro I J R H locs cells slots As h1 h2 h4 hle U hU hW
    refine ⟨rfl, by rw [hU]; exact h1, va_K.moved hW.alike hK, fun w hw => ?_, by rw [hU]; exact Nat.le_trans hbase h2.1, fun hg => by rw [hU]; exact am_size_eq h1 h2 hbase hb0 h4 hle hg⟩
    obtain ⟨a1, a2, a3, a4, rfl⟩ := am_NW_form hw
    exact va_Nw.warmM hW (hNW _ hw)
  have fin : ∀ {pc : Nat} {L : LV} {S : List Value} {ls : Array Slot} {R : HR} {cells slots : Nat} {N : MI}, lv_has ls M.2.2.1 (am_lv base b L) → am_ct R0 R cells slots → ∀ (r : Option Value) (I' : HI) (J' : HJ) (R' : HR) (H1 : Heap) (locs1 : List Loc), am_nr r → am_K0 p l e Rm s m args below meth c Qf base b cy D M R0 (pc + 3) L (r.toList ++ S) I' J' R' → am_cc R' = am_cc R + N.2.2.2.2.2.1 → am_sc R' = am_sc R + N.2.2.2.2.2.2 → am_g R ≤ am_g R' → am_Wd base b cy D I' J' R' H1 → va_S (fun q => base ≤ q) s.heap H1 locs1 → W p l e Rm s m args below meth c H1 locs1 (cells + N.2.2.2.2.2.1) (slots + N.2.2.2.2.2.2) (Qf M.2.2.2.2.2.1 M.2.2.2.2.2.2) (F0 m (pc + 3) ls (r.toList ++ S.map (am_cv base b))) := by
    intro pc L S ls R cells slots N h3 h4 r I' J' R' H1 locs1 hnr kk c1 c2 c3 hw hS
    have k := kk H1 locs1 (cells + N.2.2.2.2.2.1) (slots + N.2.2.2.2.2.2) ls hw hS h3 (by obtain ⟨d1, d2, d3⟩ := h4; exact ⟨by omega, by omega, by omega⟩)
    rw [am_nr_map hnr] at k
    exact k
  refine ⟨?_, ?_, ?_, ?_⟩
  · intro pc L S As St I J R idx k n a N hd hl hn ha hcat hfit hst hc H locs cells slots ls h1 h2 h3 h4
    subst hst
    refine am_szW fun hle => ?_
    have hlk : am_okM N n ∧ am_in (.instanceMethod N.1) ∧ am_in (.selects N.1.cls N.1 N.1) ∧ (am_cls[k]?).map (fun q => q.1) = some N.1.cls := by
      rcases hl with ⟨q1, -, q2, q3, q4⟩ | ⟨q1, -, q2, q3, q4⟩ <;> exact ⟨q1, q2, q3, q4⟩
    obtain ⟨hok, l2, l3, l4⟩ := hlk
    obtain ⟨q, hq, hq1⟩ : ∃ q, am_cls[k]? = some q ∧ q.1 = N.1.cls := by
      cases hq : am_cls[k]? with
      | none => rw [hq] at l4; cases l4
      | some q => rw [hq] at l4; exact ⟨q, rfl, by simpa using l4⟩
    have hk := (am_cls_fn hq).2
    have hrecv := va_recv hK h1.1 hq (am_he h1 ha hk)
    rw [hq1] at hrecv
    have hM := hC N n _ I J R _ hok hc base b cy D
    have hP : PreV s H N.1.cls (am_ad base b a) (va_Pc ((Value.ref a :: As).map (am_cv base b)) (am_Pc base b cy D I J R)) (As.map (am_cv base b)) := ⟨am_blind _ _ _ _ _ _ _ _, hrecv, pre (Value.ref a :: As) h1 h2 h4 hle⟩
    have hstk : (As.reverse ++ Value.ref a :: S).map (am_cv base b) = (As.map (am_cv base b)).reverse ++ Value.ref (am_ad base b a) :: S.map (am_cv base b) := by simp [am_cv]
    have hcatS : 2 * (F0 m pc ls ((As.reverse ++ Value.ref a :: S).map (am_cv base b))).monitorRoom + ((S.map (am_cv base b)).map fun v => v.category).sum ≤ 8 := by
      rw [am_catmap]
      simpa [JFrame.monitorRoom] using hcat
    rcases hl with ⟨-, l1, -⟩ | ⟨-, ⟨host, l1⟩, -⟩
    · exact am_callg (va_runV (As := As.map (am_cv base b)) (rest := S.map (am_cv base b)) ⟨hx, hb, hml, hown, hts⟩ hM ⟨callB_of n hts (am_gin N hok.2.1) rfl rfl rfl (hts _ hok.2.2.1) (hts _ l1) ⟨hok.2.2.2.1, hok.2.2.2.2.1, hok.2.2.2.2.2.1⟩ (room N n hok), hts _ l2, hts _ l3⟩ hP rfl (by simpa using hn) h3.1 hstk hcatS hd (fit N R cells slots hfit h4)) h2 (fin h3 h4)
    · exact am_callg (va_runVN (host := host) (As := As.map (am_cv base b)) (rest := S.map (am_cv base b)) ⟨hx, hb, hml, hown, hts⟩ hM ⟨va_cnB n hts (am_gin N hok.2.1) rfl rfl rfl (hNW _ l1) (hts _ hok.2.2.1) ⟨hok.2.2.2.1, hok.2.2.2.2.1, hok.2.2.2.2.2.1⟩ (room N n hok), hts _ l2, hts _ l3⟩ hP rfl (by simpa using hn) h3.1 hstk hcatS hd (fit N R cells slots hfit h4)) h2 (fin h3 h4)
  · intro pc L S As St I J R idx n N hd ⟨hok, l1, l2⟩ hn hcat hfit hst hc H locs cells slots ls h1 h2 h3 h4
    subst hst
    refine am_szW fun hle => ?_
    have hM := hC N n _ I J R _ hok hc base b cy D
    have hP : PreS s H (va_Pc (As.map (am_cv base b)) (am_Pc base b cy D I J R)) (As.map (am_cv base b)) := ⟨am_blind _ _ _ _ _ _ _ _, pre As h1 h2 h4 hle⟩
    have hstk : (As.reverse ++ S).map (am_cv base b) = (As.map (am_cv base b)).reverse ++ S.map (am_cv base b) := by simp
    have hcatS : 2 * (F0 m pc ls ((As.reverse ++ S).map (am_cv base b))).monitorRoom + ((S.map (am_cv base b)).map fun v => v.category).sum ≤ 8 := by
      rw [am_catmap]
      simpa [JFrame.monitorRoom] using hcat
    exact am_callg (va_runS (As := As.map (am_cv base b)) (rest := S.map (am_cv base b)) ⟨hx, hb, hml, hown, hts⟩ hM ⟨callB_of n hts (am_gin N hok.2.1) rfl rfl rfl (hts _ hok.2.2.1) (hts _ l1) ⟨hok.2.2.2.1, hok.2.2.2.2.1, hok.2.2.2.2.2.1⟩ (room N n hok), hts _ l2⟩ hP rfl (by simpa using hn) h3.1 hstk hcatS hd (fit N R cells slots hfit h4)) h2 (fin h3 h4)
  · intro pc L S As St I J R idx n a N hd ⟨hok, hnone, hname, l2, l1⟩ hn hcat hfit hst hc H locs cells slots ls h1 h2 h3 h4
    subst hst
    refine am_szW fun hle => ?_
    have hM := hC N n _ I J R _ hok hc base b cy D
    have hP : PreS s H (va_Pc ((Value.ref a :: As).map (am_cv base b)) (am_Pc base b cy D I J R)) (.ref (am_ad base b a) :: As.map (am_cv base b)) := ⟨am_blind _ _ _ _ _ _ _ _, pre (Value.ref a :: As) h1 h2 h4 hle⟩
    have hstk : (As.reverse ++ Value.ref a :: S).map (am_cv base b) = (As.map (am_cv base b)).reverse ++ Value.ref (am_ad base b a) :: S.map (am_cv base b) := by simp [am_cv]
    have hcatS : 2 * (F0 m pc ls ((As.reverse ++ Value.ref a :: S).map (am_cv base b))).monitorRoom + ((S.map (am_cv base b)).map fun v => v.category).sum ≤ 8 := by
      rw [am_catmap]
      simpa [JFrame.monitorRoom] using hcat
    have hG := am_gin N hok.2.1
    have hw : am_wsM N = Cond.code N.1 N.2.1 N.2.2.1 none :: am_GW := by rw [am_wsM, hnone]
    rcases l1 with l1 | ⟨host, l1⟩
    · exact am_callg (va_runI (As := As.map (am_cv base b)) (rest := S.map (am_cv base b)) ⟨hx, hb, hml, hown, hts⟩ hM ⟨callB_of n hts hG hw rfl rfl (hts _ hok.2.2.1) (hts _ l1) ⟨hok.2.2.2.1, hok.2.2.2.2.1, hok.2.2.2.2.2.1⟩ (room N n hok), hname, hts _ l2⟩ hP rfl (by simpa using hn) h3.1 hstk hcatS hd (fit N R cells slots hfit h4)) h2 (fin h3 h4)
    · exact am_callg (va_runIN (host := host) (As := As.map (am_cv base b)) (rest := S.map (am_cv base b)) ⟨hx, hb, hml, hown, hts⟩ hM ⟨va_cnB n hts hG hw rfl rfl (hNW _ l1) (hts _ hok.2.2.1) ⟨hok.2.2.2.1, hok.2.2.2.2.1, hok.2.2.2.2.2.1⟩ (room N n hok), hname, hts _ l2⟩ hP rfl (by simpa using hn) h3.1 hstk hcatS hd (fit N R cells slots hfit h4)) h2 (fin h3 h4)
  · intro pc L S I J R idx a hd l1 l2 l3 hcat kk H locs cells slots ls h1 h2 h3 h4
    refine W.objInit hx hb hown (hts _ l1) (hts _ l2) (hts _ l3) rfl (by rw [hml]; exact h3.1) rfl hd (by omega) ?_ (kk H locs cells slots ls h1 h2 h3 h4)
    rw [am_catmap]
    simp only [JFrame.monitorRoom]
    omega
end AMV
