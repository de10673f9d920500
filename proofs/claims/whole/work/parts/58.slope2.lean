/-! slope, bar: both sides -/
def sloV (T : SP) (k x : Nat) : Nat := slo (slA T x (T 0 4)) x (T 8 k)
def slopeV (G T : SP) (x1 x2 : Int32) : Int32 := if inN x1 (T 0 3) = true then (if inN x2 (G 3 2) = true then nI (sloV T (xN x1) (1000 + xN x2)) else -1) else -1
def barV (T : SP) (x1 x2 : Int32) : Int32 := if inN x1 (T 0 3) = true then (if inN x2 (T 0 4) = true then nI (sloV T (xN x1) (xN x2)) else -1) else -1
section BE
variable {d : Nat} {I : HI} {J : HJ} {R : HR} {o : Nat} {G T : SP} {D : Nat → Nat} {N : Nat → List Nat} {inp : Nat → Nat} {x1 x2 x3 : Int32}
theorem t_once {k x : Nat} {Q : Int32 → HI → Prop} (hw : wfG G D N) (hF : finT G T) (hc : cQ I R G N T) (hk : k < T 0 3) (hx : x < 5000) (h : ∀ I', frC I I' → Q (nI (sloV T k x)) I') : Wc fi (d + 5) M_X7_once [.ref 72, .ref 30, .int (sI (T 8 k)), .int (nI x)] I J R Q := by
  obtain ⟨hs, ⟨p, hp1, hp2, hp3⟩, ⟨n1, n2, n3⟩, v1, v2, v3, v4, v5, v6, v7⟩ := id hc
  have h4 := hw.2.2.2.2.2.1
  have he := hF.1.2.2.2.1
  refine e_X7_once hs (Or.inl rfl) ?_
  refine e_X7_fillFirst hs (Or.inl rfl) ?_
  refine t_sfill hs (Or.inl rfl) (sc_73 hs) rfl (by decide) h4 hF v5 hx (fun I1 f1 g1 => ?_)
  refine t_sof (n := T 0 4) hs (sc_73 hs) rfl he (okS_n h4 (hF.2.2.2.1 k hk).2) hx g1 (slA_no T x (T 0 4)) ?_
  exact h I1 (frC_c (c := 73) (Or.inr (by decide)) (by decide) frC_rf f1)
theorem c_slope {Q : Int32 → HI → Prop} (hw : wfG G D N) (hF : finT G T) (hc : cQ I R G N T) (h : ∀ I', frC I I' → Q (slopeV G T x1 x2) I') : Wc fi (d + 6) M_X11_slope [.ref 0, .int x1, .int x2] I J R Q := by
  obtain ⟨hs, ⟨p, hp1, hp2, hp3⟩, ⟨n1, n2, n3⟩, v1, v2, v3, v4, v5, v6, v7⟩ := id hc
  have h4 := hw.2.2.2.2.2.1
  have h20 := hF.1.2.2.2.2.1
  refine e_X11_slope hs ?_
  simp only [slopeV] at h
  refine t_hasOut (T := T) hs hF v4.1 ⟨fun hb => ?_, fun hb => ?_⟩
  · rw [hb, if_neg (by decide)] at h
    exact h I frC_rf
  · rw [hb, if_pos rfl] at h
    obtain ⟨k, ck, c0, c2⟩ := in_ex (by omega) hb
    refine t_hasInput hs h4 hp1 hp2 hp3.2.2.1 ⟨fun hi => ?_, fun hi => ?_⟩
    · rw [hi, if_pos rfl] at h
      obtain ⟨k2, ck2, c02, c22⟩ := in_ex (by omega) hi
      rw [c2, c22] at h
      rw [ck, ck2, show (1000 : Int32) + nI k2 = nI (1000 + k2) from nI_add 1000 k2]
      refine t_sourceAt (n := T 0 3) hs (Or.inr (Or.inr (Or.inr (Or.inl rfl)))) v4.1 (by omega) c0 ?_
      rw [show I (27 + 2) k = sI (T 8 k) from v4.2.2 k c0]
      exact t_once hw hF hc c0 (by omega) h
    · rw [hi, if_neg (by decide)] at h
      exact h I frC_rf
theorem c_bar {Q : Int32 → HI → Prop} (hw : wfG G D N) (hF : finT G T) (hc : cQ I R G N T) (h : ∀ I', frC I I' → Q (barV T x1 x2) I') : Wc fi (d + 6) M_X11_bar [.ref 0, .int x1, .int x2] I J R Q := by
  obtain ⟨hs, ⟨p, hp1, hp2, hp3⟩, ⟨n1, n2, n3⟩, v1, v2, v3, v4, v5, v6, v7⟩ := id hc
  have h4 := hw.2.2.2.2.2.1
  have he := hF.1.2.2.2.1
  have h20 := hF.1.2.2.2.2.1
  refine e_X11_bar hs ?_
  simp only [barV] at h
  refine t_hasOut (T := T) hs hF v4.1 ⟨fun hb => ?_, fun hb => ?_⟩
  · rw [hb, if_neg (by decide)] at h
    exact h I frC_rf
  · rw [hb, if_pos rfl] at h
    obtain ⟨k, ck, c0, c2⟩ := in_ex (by omega) hb
    refine t_hasEntry (T := T) hs hF v5.1 ⟨fun hi => ?_, fun hi => ?_⟩
    · rw [hi, if_pos rfl] at h
      obtain ⟨k2, ck2, c02, c22⟩ := in_ex (by omega) hi
      rw [c2, c22] at h
      rw [ck, ck2]
      refine t_sourceAt (n := T 0 3) hs (Or.inr (Or.inr (Or.inr (Or.inl rfl)))) v4.1 (by omega) c0 ?_
      rw [show I (27 + 2) k = sI (T 8 k) from v4.2.2 k c0]
      exact t_once hw hF hc c0 (by omega) h
    · rw [hi, if_neg (by decide)] at h
      exact h I frC_rf
theorem frA_J {I I1 : HI} {J J1 J2 : HJ} {c : Nat} (h1 : 109 ≤ c) (h2 : c ≤ 117) (h : frA I I1 J J1) (hf : ∀ a, ¬ a = c → J2 a = J1 a) : frA I I1 J J2 := ⟨h.1, h.2.1, h.2.2.1, fun a ha => (hf a (by omega)).trans (h.2.2.2 a ha)⟩
theorem m_slope {Q : Int32 → HI → HJ → Prop} (hw : wfG G D N) (hF : finT G T) (hr : rQ I J R G T) (h : ∀ I' J', frA I I' J J' → Q (slopeV G T x1 x2) I' J') : Wd fi (d + 5) M_X12_slope [.ref 80, .int x1, .int x2] I J R Q := by
  have hs := hr.1
  have h4 := hw.2.2.2.2.2.1
  have he := hF.1.2.2.2.1
  have h20 := hF.1.2.2.2.2.1
  have hf0 : frA I (up I 80 0 0) J J := frA_0
  have hr0 := rQ_fr hf0 hr
  refine e_X12_slope hs ?_
  simp only [slopeV] at h
  refine t_isOut hs hF hr0.2.2.1 ⟨fun hb => ?_, fun hb => ?_⟩
  · rw [hb, if_neg (by decide)] at h
    exact h _ _ hf0
  · rw [hb, if_pos rfl] at h
    obtain ⟨k, ck, c0, c2⟩ := in_ex (by omega) hb
    refine t_isInput hs h4 hr0.2.1.2.2.1 ⟨fun hi => ?_, fun hi => ?_⟩
    · rw [hi, if_neg (by decide)] at h
      exact h _ _ hf0
    · rw [hi, if_pos rfl] at h
      obtain ⟨k2, ck2, c02, c22⟩ := in_ex (by omega) hi
      rw [c2, c22] at h
      rw [ck, ck2]
      refine e_X12_riseOf hs ?_
      rw [show (1000 : Int32) + nI k2 = nI (1000 + k2) from nI_add 1000 k2]
      refine t_mlays hs (sc_112 hs) rfl (by decide) h4 hF hr0.2.2.1 (by omega) (fun J1 f1 g1 => ⟨k, rfl, by omega, ?_⟩)
      rw [hr0.2.2.1.2.2.2.2.1.2 k c0]
      refine t_mslo (n := T 0 4) hs (sc_112 hs) rfl he (okS_n h4 (hF.2.2.2.1 k c0).2) (by omega) g1 (slA_no T _ (T 0 4)) ?_
      rw [lN_i]
      exact h _ _ (frA_J (c := 112) (by decide) (by decide) hf0 f1)
theorem m_bar {Q : Int32 → HI → HJ → Prop} (hw : wfG G D N) (hF : finT G T) (hr : rQ I J R G T) (h : ∀ I' J', frA I I' J J' → Q (barV T x1 x2) I' J') : Wd fi (d + 5) M_X12_bar [.ref 80, .int x1, .int x2] I J R Q := by
  have hs := hr.1
  have h4 := hw.2.2.2.2.2.1
  have he := hF.1.2.2.2.1
  have h20 := hF.1.2.2.2.2.1
  have hf0 : frA I (up I 80 0 0) J J := frA_0
  have hr0 := rQ_fr hf0 hr
  refine e_X12_bar hs ?_
  simp only [barV] at h
  refine t_isOut hs hF hr0.2.2.1 ⟨fun hb => ?_, fun hb => ?_⟩
  · rw [hb, if_neg (by decide)] at h
    exact h _ _ hf0
  · rw [hb, if_pos rfl] at h
    obtain ⟨k, ck, c0, c2⟩ := in_ex (by omega) hb
    refine t_isEntry hs hF hr0.2.2.1 ⟨fun hi => ?_, fun hi => ?_⟩
    · rw [hi, if_pos rfl] at h
      obtain ⟨k2, ck2, c02, c22⟩ := in_ex (by omega) hi
      rw [c2, c22] at h
      rw [ck, ck2]
      refine t_mlays hs (sc_112 hs) rfl (by decide) h4 hF hr0.2.2.1 (by omega) (fun J1 f1 g1 => ⟨k, rfl, by omega, ?_⟩)
      rw [hr0.2.2.1.2.2.2.2.1.2 k c0]
      refine t_mslo (n := T 0 4) hs (sc_112 hs) rfl he (okS_n h4 (hF.2.2.2.1 k c0).2) (by omega) g1 (slA_no T _ (T 0 4)) ?_
      rw [lN_i]
      exact h _ _ (frA_J (c := 112) (by decide) (by decide) hf0 f1)
    · rw [hi, if_neg (by decide)] at h
      exact h _ _ hf0
end BE
