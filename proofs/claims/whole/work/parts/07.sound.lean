/-! WHAT am_W SAYS HOLDS OF THE MACHINE -/
def am_ad (base b a : Nat) : Nat := if a = 999 then b else base + a
def am_cv (base b : Nat) (v : Value) : Value := match v with
  | .ref a => .ref (am_ad base b a)
  | v => v
def am_lv (base b : Nat) (L : LV) : LV := L.map (fun q => (q.1, am_cv base b q.2))
theorem am_cv_cat (base b : Nat) (v : Value) : (am_cv base b v).category = v.category := by cases v <;> rfl
def am_fs (base b : Nat) (I : HI) (R : HR) (k a : Nat) : List Value := (List.range (am_fn k)).map (fun j => if am_isR (am_ty k j) = true then va_rf ((R a j).map (am_ad base b)) else .int (I a j))
def am_ent (base b : Nat) (cy : Nat → ClassId) (I : HI) (J : HJ) (R : HR) (a : Nat) : va_E :=
  if (am_T a).1 < 12 then .inr ((am_T a).1, am_fs base b I R (am_T a).1 a) else if (am_T a).1 = 14 then .inl (cy 14, (am_T a).2, .inr (.inl (J a))) else .inl (cy (am_T a).1, (am_T a).2, .inl (I a))
def am_ws (base b : Nat) (cy : Nat → ClassId) (I : HI) (J : HJ) (R : HR) (n : Nat) : va_W := (List.range n).map (fun a => (base + a, am_ent base b cy I J R a))
def am_tys (cy : Nat → ClassId) : List (ClassId × FieldType) := [(cy 12, .byte), (cy 13, .int), (cy 14, .long), (cy 15, .boolean)]
def am_Wd (base b : Nat) (cy : Nat → ClassId) (D : va_G) (I : HI) (J : HJ) (R : HR) (H : Heap) : Prop :=
  va_P D am_cls (am_ws base b cy I J R (am_n R)) H ∧ am_n R ≤ 900
theorem am_ws_get {base b : Nat} {cy : Nat → ClassId} {I : HI} {J : HJ} {R : HR} {n a : Nat} (h : a < n) : (am_ws base b cy I J R n)[a]? = some (base + a, am_ent base b cy I J R a) := by
  simp [am_ws, h]
theorem am_ws_D (base b : Nat) (cy : Nat → ClassId) (I : HI) (J : HJ) (R : HR) (n : Nat) : va_D (fun q => base ≤ q) (am_ws base b cy I J R n) := by
  have key : ∀ (i : Nat) (p : Nat × va_E), (am_ws base b cy I J R n)[i]? = some p → p.1 = base + i := by
    intro i p h
    have hi : i < n := by
      have := (List.getElem?_eq_some_iff.mp h).1
      simpa [am_ws] using this
    rw [am_ws_get hi] at h
    cases h
    rfl
  refine ⟨fun i j p q hi hj hpq => ?_, fun k q hk => ?_⟩
  · have h1 := key i p hi
    have h2 := key j q hj
    omega
  · have h1 := key k q hk
    show base ≤ q.1
    omega
theorem am_ws_set {base b : Nat} {cy : Nat → ClassId} {I I' : HI} {J J' : HJ} {R R' : HR} {n a : Nat} (h : ∀ c, c < n → ¬ c = a → am_ent base b cy I' J' R' c = am_ent base b cy I J R c) :
    (am_ws base b cy I J R n).set a (base + a, am_ent base b cy I' J' R' a) = am_ws base b cy I' J' R' n := by
  apply List.ext_getElem?
  intro i
  by_cases hi : i < n
  · rw [am_ws_get hi]
    by_cases hia : i = a
    · subst hia
      rw [List.getElem?_set_self (by simpa [am_ws] using hi)]
    · rw [List.getElem?_set_ne (fun q => hia q.symm), am_ws_get hi, h i hi hia]
  · rw [List.getElem?_eq_none (by simp [am_ws]; omega), List.getElem?_eq_none (by simp [am_ws]; omega)]
theorem am_ent_congr {base b : Nat} {cy : Nat → ClassId} {I I' : HI} {J J' : HJ} {R R' : HR} {c : Nat} (hI : I' c = I c) (hJ : J' c = J c) (hR : R' c = R c) : am_ent base b cy I' J' R' c = am_ent base b cy I J R c := by
  simp only [am_ent, am_fs, hI, hJ, hR]
theorem up_ne {α : Type} (f : Nat → Nat → α) (a k : Nat) (v : α) {c : Nat} (h : ¬ c = a) : up f a k v c = f c := by
  funext j
  simp [up, h]
theorem up_row (f : HI) (a k : Nat) (v : Int32) : up f a k v a = upd (f a) k v := by
  funext j
  simp [up, upd]
theorem up_rowL (f : HJ) (a k : Nat) (v : Int64) : up f a k v a = vp_updL (f a) k v := by
  funext j
  simp [up, vp_updL]
theorem am_n_up {R : HR} {a j : Nat} {v : Option Nat} (h : a < 900) : am_n (up R a j v) = am_n R := by
  simp only [am_n, up]
  rw [if_neg (by omega)]
theorem am_g_up {R : HR} {a j : Nat} {v : Option Nat} (h : a < 900) : am_g (up R a j v) = am_g R := by
  simp only [am_g, up]
  rw [if_neg (by omega)]
theorem am_cls_fn {k : Nat} {q : vw_C} (h : am_cls[k]? = some q) : am_fn k = q.2.2 ∧ k < 12 := by
  refine ⟨?_, (List.getElem?_eq_some_iff.mp h).1⟩
  simp only [am_fn, List.getElem?_map, h, Option.map, Option.getD]
theorem am_fs_len (base b : Nat) (I : HI) (R : HR) (k a : Nat) : (am_fs base b I R k a).length = am_fn k := by simp [am_fs]
theorem am_fs_get {base b : Nat} {I : HI} {R : HR} {k a j : Nat} (h : j < am_fn k) : (am_fs base b I R k a)[j]? = some (if am_isR (am_ty k j) = true then va_rf ((R a j).map (am_ad base b)) else .int (I a j)) := by
  simp [am_fs, h]
theorem am_fs_setI {base b : Nat} {I : HI} {R : HR} {k a j : Nat} {x : Int32} (hr : am_isR (am_ty k j) = false) : (am_fs base b I R k a).set j (.int x) = am_fs base b (up I a j x) R k a := by
  apply List.ext_getElem?
  intro i
  by_cases hi : i < am_fn k
  · rw [am_fs_get hi]
    by_cases hij : i = j
    · subst hij
      rw [List.getElem?_set_self (by rw [am_fs_len]; exact hi)]
      simp [hr, up]
    · rw [List.getElem?_set_ne (fun q => hij q.symm), am_fs_get hi]
      simp [up, hij]
  · rw [List.getElem?_eq_none (by simp [am_fs_len]; omega), List.getElem?_eq_none (by simp [am_fs_len]; omega)]
theorem am_fs_setR {base b : Nat} {I : HI} {R : HR} {k a j c : Nat} (hr : am_isR (am_ty k j) = true) : (am_fs base b I R k a).set j (.ref (am_ad base b c)) = am_fs base b I (up R a j (some c)) k a := by
  apply List.ext_getElem?
  intro i
  by_cases hi : i < am_fn k
  · rw [am_fs_get hi]
    by_cases hij : i = j
    · subst hij
      rw [List.getElem?_set_self (by rw [am_fs_len]; exact hi)]
      simp [hr, up, va_rf]
    · rw [List.getElem?_set_ne (fun q => hij q.symm), am_fs_get hi]
      simp [up, hij]
  · rw [List.getElem?_eq_none (by simp [am_fs_len]; omega), List.getElem?_eq_none (by simp [am_fs_len]; omega)]
theorem am_ad_lt {base b a : Nat} (h : a < 999) : am_ad base b a = base + a := by
  simp only [am_ad]
  rw [if_neg (by omega)]
theorem am_lv_get {base b : Nat} {L : LV} {k i : Nat} {v : Value} (h : L[k]? = some (i, v)) : (am_lv base b L)[k]? = some (i, am_cv base b v) := by
  simp [am_lv, h]
theorem am_lv_st (base b : Nat) (L : LV) (i : Nat) (v : Value) : am_lv base b (am_st L i v) = am_st (am_lv base b L) i (am_cv base b v) := by
  simp only [am_lv, am_st, List.map_cons, List.filter_map]
  congr 2
  apply List.filter_congr
  intro q _
  simp only [Function.comp, am_cv_cat]
theorem am_lv_pick (base b : Nat) (L : LV) (ks : List Nat) : lv_pick (am_lv base b L) ks = am_lv base b (lv_pick L ks) := by
  simp only [lv_pick, am_lv, List.map_filterMap]
  congr 1
  funext k
  simp [List.getElem?_map]
theorem am_in_good {w : Cond} (h : am_in w) : w ∈ am_GW ∧ ((w.onTables && w.keeps) = true ∨ ∃ ty, w = .arrayClass ty) := ⟨h, good_of_word (List.mem_filter.mp h).2⟩
theorem am_in_tbl {w : Cond} (h : am_in w) : w ∈ lw_tbl := (List.mem_filter.mp h).1
