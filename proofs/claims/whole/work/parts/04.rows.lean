/-! rows: an instruction each, over am_wp -/
theorem am_wp.rg {M : am_M} {d : Nat} {Y : am_Y} {pc : Nat} {ls : am_L} {st : List am_V} {h : am_H} {Q : Option am_V → am_H → Prop} (k : am_ok Y h → am_ll ls → (∀ v ∈ st, am_rv v) → am_wp M d Y pc ls st h Q) : am_wp M d Y pc ls st h Q :=
  fun p l e s m args below meth c G A H locs r X hP hD hS ho hl hs hr => k ho hl hs p l e s m args below meth c G A H locs r X hP hD hS ho hl hs hr
theorem am_wp.mono {M : am_M} {d : Nat} {Y : am_Y} {pc : Nat} {ls : am_L} {st : List am_V} {h : am_H} {Q Q' : Option am_V → am_H → Prop} (k : am_wp M d Y pc ls st h Q) (hQ : ∀ r h', am_ok Y h' → (∀ v, r = some v → am_rv v) → Q r h' → Q' r h') : am_wp M d Y pc ls st h Q' := by
  intro p l e s m args below meth c G A H locs r X hP hD hS ho hl hs hr T hT X0
  obtain ⟨t, a, o, b1, b2, ⟨⟨r', h', c1, c2, c3, c4, c5⟩, c6⟩, b4⟩ := k p l e s m args below meth c G A H locs r X hP hD hS ho hl hs hr T hT X0
  exact ⟨t, a, o, b1, b2, ⟨⟨r', h', c1, hQ _ _ c3 c4 c2, c3, c4, c5⟩, c6⟩, b4⟩
/-- fewer locals known -/
theorem am_wp.less {M : am_M} {d : Nat} {Y : am_Y} {pc : Nat} {ls ls' : am_L} {st : List am_V} {h : am_H} {Q : Option am_V → am_H → Prop} (k : am_wp M d Y pc ls' st h Q) (hle : ∀ (i : Nat) (v : am_V), ls'[i]? = some (some v) → ls[i]? = some (some v)) : am_wp M d Y pc ls st h Q :=
  fun p l e s m args below meth c G A H locs r X hP hD hS ho hl hs hr => k p l e s m args below meth c G A H locs r X hP hD hS ho (fun i v hv => hl i v (hle i v hv)) hs ⟨hr.1, hr.2.1, fun i v hv => hr.2.2 i v (hle i v hv)⟩
theorem am_tl {P : am_V → Prop} {a : am_V} {l : List am_V} (h : ∀ v ∈ a :: l, P v) : ∀ v ∈ l, P v := fun v hv => h v (List.mem_cons_of_mem _ hv)
theorem am_hd {P : am_V → Prop} {a : am_V} {l : List am_V} (h : ∀ v ∈ a :: l, P v) : P a := h a List.mem_cons_self
theorem am_cs {P : am_V → Prop} {a : am_V} {l : List am_V} (h : P a) (hl : ∀ v ∈ l, P v) : ∀ v ∈ a :: l, P v := fun v hv => by
  rcases List.mem_cons.mp hv with rfl | hv
  · exact h
  · exact hl v hv
/-- bits, and what wraps around -/
def am_w (x : Int) : Int := (Int32.ofInt x).toInt
def am_wl (x : Int) : Int := (Int64.ofInt x).toInt
def am_and (x y : Int) : Int := (Int32.ofInt x &&& Int32.ofInt y).toInt
def am_or (x y : Int) : Int := (Int32.ofInt x ||| Int32.ofInt y).toInt
def am_xor (x y : Int) : Int := (Int32.ofInt x ^^^ Int32.ofInt y).toInt
def am_shl (x y : Int) : Int := (Int32.ofInt x <<< (Int32.ofInt y &&& 31)).toInt
def am_shr (x y : Int) : Int := (Int32.ofInt x >>> (Int32.ofInt y &&& 31)).toInt
def am_ushr (x y : Int) : Int := ((Int32.ofInt x).toUInt32 >>> ((Int32.ofInt y).toUInt32 &&& Int32.toUInt32 31)).toInt32.toInt
def am_b (x : Int) : Int := (Int32.ofInt x).toInt8.toInt32.toInt
def am_ch (x : Int) : Int := ((Int32.ofInt x).toUInt32 % 65536).toInt32.toInt
def am_lor (x y : Int) : Int := (Int64.ofInt x ||| Int64.ofInt y).toInt
def am_lshl (x y : Int) : Int := (Int64.ofInt x <<< ((Int32.ofInt y).toInt64 &&& 63)).toInt
def am_lushr (x y : Int) : Int := ((Int64.ofInt x).toUInt64 >>> ((Int32.ofInt y).toInt64.toUInt64 &&& Int64.toUInt64 63)).toInt64.toInt
def am_l2i (x : Int) : Int := (Int64.ofInt x).toInt32.toInt
theorem am_ir (z : Int32) : am_ri z.toInt := ⟨by have := z.le_toInt; omega, by have := z.toInt_lt; omega⟩
theorem am_lr (z : Int64) : am_rl z.toInt := ⟨by have := z.le_toInt; omega, by have := z.toInt_lt; omega⟩
theorem am_w_of {x : Int} (h : am_ri x) : am_w x = x := am_i h
theorem am_wl_of {x : Int} (h : am_rl x) : am_wl x = x := am_l h
section
variable {M : am_M} {d : Nat} {Y : am_Y} {pc : Nat} {ls : am_L} {st : List am_V} {h : am_H} {Q : Option am_V → am_H → Prop}
theorem am_iconst {n : Int} (hd : decode M.2.1 pc = .ok (.iconst n, 1)) (hn : -2147483648 ≤ n ∧ n < 2147483648) (k : am_wp M d Y (pc + 1) ls (.inl n :: st) h Q) : am_wp M d Y pc ls (st) h Q := by
  intro p l e s m args below meth c G A H locs r X hP hD hS ho hl hs hr
  exact lv_iconst X.1 X.2.1 hd rfl (k p l e s m args below meth c G A H locs r X hP hD hS ho hl (am_cs hn hs) hr)
theorem am_bipush {n : Int} (hd : decode M.2.1 pc = .ok (.bipush n, 2)) (hn : -128 ≤ n ∧ n ≤ 127) (k : am_wp M d Y (pc + 2) ls (.inl n :: st) h Q) : am_wp M d Y pc ls (st) h Q := by
  intro p l e s m args below meth c G A H locs r X hP hD hS ho hl hs hr
  exact lv_bipush X.1 X.2.1 hd (Int8.toInt32_ofInt hn.1 hn.2) (k p l e s m args below meth c G A H locs r X hP hD hS ho hl (am_cs (show am_ri n from ⟨by omega, by omega⟩) hs) hr)
theorem am_sipush {n : Int} (hd : decode M.2.1 pc = .ok (.sipush n, 3)) (hn : -32768 ≤ n ∧ n ≤ 32767) (k : am_wp M d Y (pc + 3) ls (.inl n :: st) h Q) : am_wp M d Y pc ls (st) h Q := by
  intro p l e s m args below meth c G A H locs r X hP hD hS ho hl hs hr
  exact lv_sipush X.1 X.2.1 hd (Int16.toInt32_ofInt hn.1 hn.2) (k p l e s m args below meth c G A H locs r X hP hD hS ho hl (am_cs (show am_ri n from ⟨by omega, by omega⟩) hs) hr)
theorem am_lconst {n : Fin 2} (hd : decode M.2.1 pc = .ok (.lconst n, 1)) (k : am_wp M d Y (pc + 1) ls (.inr (.inl ((n : Nat) : Int)) :: st) h Q) : am_wp M d Y pc ls (st) h Q := by
  intro p l e s m args below meth c G A H locs r X hP hD hS ho hl hs hr
  refine lv_lconst X.1 X.2.1 hd (v := Int64.ofInt ((n : Nat) : Int)) ?_ (k p l e s m args below meth c G A H locs r X hP hD hS ho hl (am_cs (show am_rl ((n : Nat) : Int) from ⟨by omega, by omega⟩) hs) hr)
  rcases n with ⟨n, hn⟩
  match n, hn with
  | 0, _ => rfl
  | 1, _ => rfl
theorem am_ldc {i : Nat} {n : Int} (hd : decode M.2.1 pc = .ok (.ldc i, 2)) (hw : Cond.constant M.1.cls i (Int32.ofInt n) ∈ am_ws) (hn : -2147483648 ≤ n ∧ n < 2147483648) (k : am_wp M d Y (pc + 2) ls (.inl n :: st) h Q) : am_wp M d Y pc ls (st) h Q := by
  intro p l e s m args below meth c G A H locs r X hP hD hS ho hl hs hr
  exact lv_ldc X.1 X.2.1 X.2.2.2.2.1 (X.2.2.2.2.2.2.1 _ hw) hd (k p l e s m args below meth c G A H locs r X hP hD hS ho hl (am_cs hn hs) hr)
theorem am_ldcw {i : Nat} {n : Int} (hd : decode M.2.1 pc = .ok (.ldc_w i, 3)) (hw : Cond.constant M.1.cls i (Int32.ofInt n) ∈ am_ws) (hn : -2147483648 ≤ n ∧ n < 2147483648) (k : am_wp M d Y (pc + 3) ls (.inl n :: st) h Q) : am_wp M d Y pc ls (st) h Q := by
  intro p l e s m args below meth c G A H locs r X hP hD hS ho hl hs hr
  exact lv_ldcw X.1 X.2.1 X.2.2.2.2.1 (X.2.2.2.2.2.2.1 _ hw) hd (k p l e s m args below meth c G A H locs r X hP hD hS ho hl (am_cs hn hs) hr)
theorem am_ldc2 {i : Nat} {n : Int} (hd : decode M.2.1 pc = .ok (.ldc2_w i, 3)) (hw : Cond.constantLong M.1.cls i (Int64.ofInt n) ∈ am_ws) (hn : -9223372036854775808 ≤ n ∧ n < 9223372036854775808) (k : am_wp M d Y (pc + 3) ls (.inr (.inl n) :: st) h Q) : am_wp M d Y pc ls (st) h Q := by
  intro p l e s m args below meth c G A H locs r X hP hD hS ho hl hs hr
  exact lv_ldc2 X.1 X.2.1 X.2.2.2.2.1 (X.2.2.2.2.2.2.1 _ hw) hd (k p l e s m args below meth c G A H locs r X hP hD hS ho hl (am_cs hn hs) hr)
theorem am_iload {i : Nat} {x : Int} (hd : decode M.2.1 pc = .ok (.iload i, 2)) (hv : ls[i]? = some (some (.inl x))) (k : am_wp M d Y (pc + 2) ls (.inl x :: st) h Q) : am_wp M d Y pc ls (st) h Q := by
  intro p l e s m args below meth c G A H locs r X hP hD hS ho hl hs hr
  exact lv_iload X.1 X.2.1 hd (hr.2.2 _ _ hv) (k p l e s m args below meth c G A H locs r X hP hD hS ho hl (am_cs (hl _ _ hv) hs) hr)
theorem am_iload_n {i : Fin 4} {x : Int} (hd : decode M.2.1 pc = .ok (.iload_n i, 1)) (hv : ls[(i : Nat)]? = some (some (.inl x))) (k : am_wp M d Y (pc + 1) ls (.inl x :: st) h Q) : am_wp M d Y pc ls (st) h Q := by
  intro p l e s m args below meth c G A H locs r X hP hD hS ho hl hs hr
  exact lv_iload_n X.1 X.2.1 hd rfl (hr.2.2 _ _ hv) (k p l e s m args below meth c G A H locs r X hP hD hS ho hl (am_cs (hl _ _ hv) hs) hr)
theorem am_lload {i : Nat} {x : Int} (hd : decode M.2.1 pc = .ok (.lload i, 2)) (hv : ls[i]? = some (some (.inr (.inl x)))) (k : am_wp M d Y (pc + 2) ls (.inr (.inl x) :: st) h Q) : am_wp M d Y pc ls (st) h Q := by
  intro p l e s m args below meth c G A H locs r X hP hD hS ho hl hs hr
  exact lv_lload X.1 X.2.1 hd (hr.2.2 _ _ hv) (k p l e s m args below meth c G A H locs r X hP hD hS ho hl (am_cs (hl _ _ hv) hs) hr)
theorem am_lload_n {i : Fin 4} {x : Int} (hd : decode M.2.1 pc = .ok (.lload_n i, 1)) (hv : ls[(i : Nat)]? = some (some (.inr (.inl x)))) (k : am_wp M d Y (pc + 1) ls (.inr (.inl x) :: st) h Q) : am_wp M d Y pc ls (st) h Q := by
  intro p l e s m args below meth c G A H locs r X hP hD hS ho hl hs hr
  exact lv_lload_n X.1 X.2.1 hd rfl (hr.2.2 _ _ hv) (k p l e s m args below meth c G A H locs r X hP hD hS ho hl (am_cs (hl _ _ hv) hs) hr)
theorem am_aload {i : Nat} {x : Nat} (hd : decode M.2.1 pc = .ok (.aload i, 2)) (hv : ls[i]? = some (some (.inr (.inr x)))) (k : am_wp M d Y (pc + 2) ls (.inr (.inr x) :: st) h Q) : am_wp M d Y pc ls (st) h Q := by
  intro p l e s m args below meth c G A H locs r X hP hD hS ho hl hs hr
  exact lv_aload X.1 X.2.1 hd (hr.2.2 _ _ hv) (k p l e s m args below meth c G A H locs r X hP hD hS ho hl (am_cs (hl _ _ hv) hs) hr)
theorem am_aload_n {i : Fin 4} {x : Nat} (hd : decode M.2.1 pc = .ok (.aload_n i, 1)) (hv : ls[(i : Nat)]? = some (some (.inr (.inr x)))) (k : am_wp M d Y (pc + 1) ls (.inr (.inr x) :: st) h Q) : am_wp M d Y pc ls (st) h Q := by
  intro p l e s m args below meth c G A H locs r X hP hD hS ho hl hs hr
  exact lv_aload_n X.1 X.2.1 hd rfl (hr.2.2 _ _ hv) (k p l e s m args below meth c G A H locs r X hP hD hS ho hl (am_cs (hl _ _ hv) hs) hr)
def am_nl (ls : am_L) (i : Nat) : Bool := match i with
  | 0 => true
  | k + 1 => match ls[k]? with
    | some (some (.inr (.inl _))) => false
    | _ => true
def am_al (ad : Nat → Nat) (ls : am_L) : List (Nat × Value) := (List.range ls.length).filterMap fun j => match ls[j]? with
  | some (some v) => some (j, am_vv ad v)
  | _ => none
theorem am_al_of {ad : Nat → Nat} {ls : am_L} {j : Nat} {v : am_V} (hv : ls[j]? = some (some v)) : (j, am_vv ad v) ∈ am_al ad ls := by
  refine List.mem_filterMap.mpr ⟨j, List.mem_range.mpr (List.getElem?_eq_some_iff.mp hv).1, ?_⟩
  rw [hv]
theorem am_al_to {ad : Nat → Nat} {ls : am_L} {q : Nat × Value} (hq : q ∈ am_al ad ls) : ∃ v, ls[q.1]? = some (some v) ∧ q.2 = am_vv ad v := by
  obtain ⟨j, -, hj⟩ := List.mem_filterMap.mp hq
  split at hj
  · next v hv => cases hj; exact ⟨v, hv, rfl⟩
  · cases hj
theorem am_has {ad : Nat → Nat} {nL : Nat} {ls : am_L} {r : Array Slot} (h : am_lv ad nL ls r) : lv_has r nL (am_al ad ls) := by
  refine ⟨h.1, h.2.1, fun q hq => ?_⟩
  obtain ⟨v, h1, h2⟩ := am_al_to hq
  rw [h2]
  exact h.2.2 _ _ h1
theorem am_cat2 {ad : Nat → Nat} {v : am_V} (h : (am_vv ad v).category = 2) : ∃ x, v = .inr (.inl x) := by
  match v with
  | .inl x => simp [am_vv, Value.category] at h
  | .inr (.inl x) => exact ⟨x, rfl⟩
  | .inr (.inr o) => simp [am_vv, Value.category] at h
theorem am_nl_of {ls : am_L} {i j : Nat} {v : am_V} {ad : Nat → Nat} (h : am_nl ls i = true) (hj : ls[j]? = some (some v)) (e : j + 1 = i) : ¬ (am_vv ad v).category = 2 := by
  intro hc
  obtain ⟨x, rfl⟩ := am_cat2 hc
  subst e
  simp [am_nl, hj] at h
theorem am_set1 {ad : Nat → Nat} {nL i : Nat} {ls : am_L} {r : Array Slot} {v : am_V} (hn : am_nl ls i = true) (h : lv_has r nL ((i, am_vv ad v) :: (am_al ad ls).filter (fun q => !(q.1 == i) && !(q.1 + 1 == i && q.2.category == 2)))) : am_lv ad nL (ls.set i (some v)) r := by
  refine ⟨h.1, h.2.1, fun j w hw => ?_⟩
  by_cases hj : j = i
  · subst hj
    have hlt : j < ls.length := by
      have := (List.getElem?_eq_some_iff.mp hw).1
      simpa using this
    rw [List.getElem?_set_self hlt] at hw
    cases hw
    exact h.2.2 _ List.mem_cons_self
  · rw [List.getElem?_set_ne (Ne.symm hj)] at hw
    refine h.2.2 (j, am_vv ad w) (List.mem_cons_of_mem _ (List.mem_filter.mpr ⟨am_al_of hw, ?_⟩))
    have h2 : ¬ (j + 1 = i ∧ (am_vv ad w).category = 2) := fun ⟨e1, e2⟩ => am_nl_of hn hw e1 e2
    simp [hj]
    omega
theorem am_set2 {ad : Nat → Nat} {nL i : Nat} {ls : am_L} {r : Array Slot} {v : am_V} (hn : am_nl ls i = true) (h : lv_has r nL ((i, am_vv ad v) :: (am_al ad ls).filter (fun q => !(q.1 == i) && (!(q.1 == i + 1) && !(q.1 + 1 == i && q.2.category == 2))))) : am_lv ad nL ((ls.set i (some v)).set (i + 1) none) r := by
  refine ⟨h.1, h.2.1, fun j w hw => ?_⟩
  have hj1 : j ≠ i + 1 := by
    intro e
    subst e
    by_cases hlt : i + 1 < (ls.set i (some v)).length
    · rw [List.getElem?_set_self hlt] at hw
      cases hw
    · rw [List.getElem?_eq_none (by rw [List.length_set]; omega)] at hw
      cases hw
  rw [List.getElem?_set_ne (Ne.symm hj1)] at hw
  by_cases hj : j = i
  · subst hj
    have hlt : j < ls.length := by
      have := (List.getElem?_eq_some_iff.mp hw).1
      simpa using this
    rw [List.getElem?_set_self hlt] at hw
    cases hw
    exact h.2.2 _ List.mem_cons_self
  · rw [List.getElem?_set_ne (Ne.symm hj)] at hw
    refine h.2.2 (j, am_vv ad w) (List.mem_cons_of_mem _ (List.mem_filter.mpr ⟨am_al_of hw, ?_⟩))
    have h2 : ¬ (j + 1 = i ∧ (am_vv ad w).category = 2) := fun ⟨e1, e2⟩ => am_nl_of hn hw e1 e2
    simp [hj, hj1]
    omega
theorem am_ll_set {ls : am_L} {i : Nat} {v : am_V} (h : am_ll ls) (hv : am_rv v) : am_ll (ls.set i (some v)) := by
  intro j w hw
  by_cases hj : j = i
  · subst hj
    have hlt : j < ls.length := by
      have := (List.getElem?_eq_some_iff.mp hw).1
      simpa using this
    rw [List.getElem?_set_self hlt] at hw
    cases hw
    exact hv
  · rw [List.getElem?_set_ne (Ne.symm hj)] at hw
    exact h j w hw
theorem am_ll_none {ls : am_L} {i : Nat} (h : am_ll ls) : am_ll (ls.set i none) := by
  intro j w hw
  by_cases hj : j = i
  · subst hj
    have hlt : j < ls.length := by
      have := (List.getElem?_eq_some_iff.mp hw).1
      simpa using this
    rw [List.getElem?_set_self hlt] at hw
    cases hw
  · rw [List.getElem?_set_ne (Ne.symm hj)] at hw
    exact h j w hw
theorem am_istore {i : Nat} {x : Int} {ls1 : am_L} (hd : decode M.2.1 pc = .ok (.istore i, 2)) (hn : Nat.ble (i + 1) M.2.2.1 = true) (hb : am_nl ls i = true) (he : ls.set i (some (.inl x)) = ls1) (k : am_wp M d Y (pc + 2) ls1 (st) h Q) : am_wp M d Y pc ls (.inl x :: st) h Q := by
  intro p l e s m args below meth c G A H locs r X hP hD hS ho hl hs hr
  subst he
  exact lv_istore X.1 X.2.1 hd (am_has hr) (Nat.le_of_ble_eq_true hn) rfl (fun r' hr' => k p l e s m args below meth c G A H locs r' X hP hD hS ho (am_ll_set hl (am_hd hs)) (am_tl hs) (am_set1 hb hr'))
theorem am_istore_n {i : Fin 4} {x : Int} {ls1 : am_L} (hd : decode M.2.1 pc = .ok (.istore_n i, 1)) (hn : Nat.ble ((i : Nat) + 1) M.2.2.1 = true) (hb : am_nl ls i = true) (he : ls.set i (some (.inl x)) = ls1) (k : am_wp M d Y (pc + 1) ls1 (st) h Q) : am_wp M d Y pc ls (.inl x :: st) h Q := by
  intro p l e s m args below meth c G A H locs r X hP hD hS ho hl hs hr
  subst he
  exact lv_istore_n X.1 X.2.1 hd rfl (am_has hr) (Nat.le_of_ble_eq_true hn) rfl (fun r' hr' => k p l e s m args below meth c G A H locs r' X hP hD hS ho (am_ll_set hl (am_hd hs)) (am_tl hs) (am_set1 hb hr'))
theorem am_astore {i : Nat} {x : Nat} {ls1 : am_L} (hd : decode M.2.1 pc = .ok (.astore i, 2)) (hn : Nat.ble (i + 1) M.2.2.1 = true) (hb : am_nl ls i = true) (he : ls.set i (some (.inr (.inr x))) = ls1) (k : am_wp M d Y (pc + 2) ls1 (st) h Q) : am_wp M d Y pc ls (.inr (.inr x) :: st) h Q := by
  intro p l e s m args below meth c G A H locs r X hP hD hS ho hl hs hr
  subst he
  exact lv_astore X.1 X.2.1 hd (am_has hr) (Nat.le_of_ble_eq_true hn) rfl (fun r' hr' => k p l e s m args below meth c G A H locs r' X hP hD hS ho (am_ll_set hl (am_hd hs)) (am_tl hs) (am_set1 hb hr'))
theorem am_astore_n {i : Fin 4} {x : Nat} {ls1 : am_L} (hd : decode M.2.1 pc = .ok (.astore_n i, 1)) (hn : Nat.ble ((i : Nat) + 1) M.2.2.1 = true) (hb : am_nl ls i = true) (he : ls.set i (some (.inr (.inr x))) = ls1) (k : am_wp M d Y (pc + 1) ls1 (st) h Q) : am_wp M d Y pc ls (.inr (.inr x) :: st) h Q := by
  intro p l e s m args below meth c G A H locs r X hP hD hS ho hl hs hr
  subst he
  exact lv_astore_n X.1 X.2.1 hd rfl (am_has hr) (Nat.le_of_ble_eq_true hn) rfl (fun r' hr' => k p l e s m args below meth c G A H locs r' X hP hD hS ho (am_ll_set hl (am_hd hs)) (am_tl hs) (am_set1 hb hr'))
theorem am_lstore {i : Nat} {x : Int} {ls1 : am_L} (hd : decode M.2.1 pc = .ok (.lstore i, 2)) (hn : Nat.ble (i + 2) M.2.2.1 = true) (hb : am_nl ls i = true) (he : (ls.set i (some (.inr (.inl x)))).set (i + 1) none = ls1) (k : am_wp M d Y (pc + 2) ls1 (st) h Q) : am_wp M d Y pc ls (.inr (.inl x) :: st) h Q := by
  intro p l e s m args below meth c G A H locs r X hP hD hS ho hl hs hr
  subst he
  exact lv_lstore X.1 X.2.1 hd (am_has hr) (Nat.le_of_ble_eq_true hn) rfl (fun r' hr' => k p l e s m args below meth c G A H locs r' X hP hD hS ho (am_ll_none (am_ll_set hl (am_hd hs))) (am_tl hs) (am_set2 hb hr'))
theorem am_lstore_n {i : Fin 4} {x : Int} {ls1 : am_L} (hd : decode M.2.1 pc = .ok (.lstore_n i, 1)) (hn : Nat.ble ((i : Nat) + 2) M.2.2.1 = true) (hb : am_nl ls i = true) (he : (ls.set i (some (.inr (.inl x)))).set ((i : Nat) + 1) none = ls1) (k : am_wp M d Y (pc + 1) ls1 (st) h Q) : am_wp M d Y pc ls (.inr (.inl x) :: st) h Q := by
  intro p l e s m args below meth c G A H locs r X hP hD hS ho hl hs hr
  subst he
  exact lv_lstore_n X.1 X.2.1 hd rfl (am_has hr) (Nat.le_of_ble_eq_true hn) rfl (fun r' hr' => k p l e s m args below meth c G A H locs r' X hP hD hS ho (am_ll_none (am_ll_set hl (am_hd hs))) (am_tl hs) (am_set2 hb hr'))
theorem am_alx {ad : Nat → Nat} {ls : am_L} {j : Nat} {v : am_V} (hv : ls[j]? = some (some v)) : ∃ k : Nat, (am_al ad ls)[k]? = some (j, am_vv ad v) := List.getElem?_of_mem (am_al_of hv)
theorem am_iinc {i : Nat} {x n : Int} {ls1 : am_L} (hd : decode M.2.1 pc = .ok (.iinc i n, 3)) (hv : ls[i]? = some (some (.inl x))) (hn : Nat.ble (i + 1) M.2.2.1 = true) (hb : am_nl ls i = true) (hq : am_ri (x + n)) (he : ls.set i (some (.inl (x + n))) = ls1) (k : am_wp M d Y (pc + 3) ls1 (st) h Q) : am_wp M d Y pc ls (st) h Q := by
  intro p l e s m args below meth c G A H locs r X hP hD hS ho hl hs hr
  subst he
  obtain ⟨kx, hkx⟩ := am_alx (ad := G.2.1) hv
  exact lv_iinc (v := Int32.ofInt (x + n)) X.1 X.2.1 hd (am_has hr) hkx (Int32.ofInt_add x n).symm (Nat.le_of_ble_eq_true hn) rfl (fun r' hr' => k p l e s m args below meth c G A H locs r' X hP hD hS ho (am_ll_set hl hq) hs (am_set1 hb hr'))
theorem am_iadd {x y : Int} (hd : decode M.2.1 pc = .ok (.iadd, 1)) (hq : am_ri (x + y)) (k : am_wp M d Y (pc + 1) ls (.inl (x + y) :: st) h Q) : am_wp M d Y pc ls (.inl y :: .inl x :: st) h Q := by
  intro p l e s m args below meth c G A H locs r X hP hD hS ho hl hs hr
  have kk := k p l e s m args below meth c G A H locs r X hP hD hS ho hl (am_cs hq (am_tl (am_tl hs))) hr
  simp only [List.map_cons, am_vv, Int32.ofInt_add] at kk ⊢
  exact lv_iadd X.1 X.2.1 hd kk
theorem am_iaddW {x y : Int} (hd : decode M.2.1 pc = .ok (.iadd, 1)) (k : am_wp M d Y (pc + 1) ls (.inl (am_w (x + y)) :: st) h Q) : am_wp M d Y pc ls (.inl y :: .inl x :: st) h Q := by
  intro p l e s m args below meth c G A H locs r X hP hD hS ho hl hs hr
  have kk := k p l e s m args below meth c G A H locs r X hP hD hS ho hl (am_cs (am_ir _) (am_tl (am_tl hs))) hr
  simp only [List.map_cons, am_vv, am_w, Int32.ofInt_toInt, Int32.ofInt_add] at kk ⊢
  exact lv_iadd X.1 X.2.1 hd kk
theorem am_isub {x y : Int} (hd : decode M.2.1 pc = .ok (.isub, 1)) (hq : am_ri (x - y)) (k : am_wp M d Y (pc + 1) ls (.inl (x - y) :: st) h Q) : am_wp M d Y pc ls (.inl y :: .inl x :: st) h Q := by
  intro p l e s m args below meth c G A H locs r X hP hD hS ho hl hs hr
  have kk := k p l e s m args below meth c G A H locs r X hP hD hS ho hl (am_cs hq (am_tl (am_tl hs))) hr
  simp only [List.map_cons, am_vv, Int32.ofInt_sub] at kk ⊢
  exact lv_isub X.1 X.2.1 hd kk
theorem am_isubW {x y : Int} (hd : decode M.2.1 pc = .ok (.isub, 1)) (k : am_wp M d Y (pc + 1) ls (.inl (am_w (x - y)) :: st) h Q) : am_wp M d Y pc ls (.inl y :: .inl x :: st) h Q := by
  intro p l e s m args below meth c G A H locs r X hP hD hS ho hl hs hr
  have kk := k p l e s m args below meth c G A H locs r X hP hD hS ho hl (am_cs (am_ir _) (am_tl (am_tl hs))) hr
  simp only [List.map_cons, am_vv, am_w, Int32.ofInt_toInt, Int32.ofInt_sub] at kk ⊢
  exact lv_isub X.1 X.2.1 hd kk
theorem am_imul {x y : Int} (hd : decode M.2.1 pc = .ok (.imul, 1)) (hq : am_ri (x * y)) (k : am_wp M d Y (pc + 1) ls (.inl (x * y) :: st) h Q) : am_wp M d Y pc ls (.inl y :: .inl x :: st) h Q := by
  intro p l e s m args below meth c G A H locs r X hP hD hS ho hl hs hr
  have kk := k p l e s m args below meth c G A H locs r X hP hD hS ho hl (am_cs hq (am_tl (am_tl hs))) hr
  simp only [List.map_cons, am_vv, Int32.ofInt_mul] at kk ⊢
  exact lv_imul X.1 X.2.1 hd kk
theorem am_imulW {x y : Int} (hd : decode M.2.1 pc = .ok (.imul, 1)) (k : am_wp M d Y (pc + 1) ls (.inl (am_w (x * y)) :: st) h Q) : am_wp M d Y pc ls (.inl y :: .inl x :: st) h Q := by
  intro p l e s m args below meth c G A H locs r X hP hD hS ho hl hs hr
  have kk := k p l e s m args below meth c G A H locs r X hP hD hS ho hl (am_cs (am_ir _) (am_tl (am_tl hs))) hr
  simp only [List.map_cons, am_vv, am_w, Int32.ofInt_toInt, Int32.ofInt_mul] at kk ⊢
  exact lv_imul X.1 X.2.1 hd kk
theorem am_ladd {x y : Int} (hd : decode M.2.1 pc = .ok (.ladd, 1)) (hq : am_rl (x + y)) (k : am_wp M d Y (pc + 1) ls (.inr (.inl (x + y)) :: st) h Q) : am_wp M d Y pc ls (.inr (.inl y) :: .inr (.inl x) :: st) h Q := by
  intro p l e s m args below meth c G A H locs r X hP hD hS ho hl hs hr
  have kk := k p l e s m args below meth c G A H locs r X hP hD hS ho hl (am_cs hq (am_tl (am_tl hs))) hr
  simp only [List.map_cons, am_vv, Int64.ofInt_add] at kk ⊢
  exact lv_ladd X.1 X.2.1 hd kk
theorem am_laddW {x y : Int} (hd : decode M.2.1 pc = .ok (.ladd, 1)) (k : am_wp M d Y (pc + 1) ls (.inr (.inl (am_wl (x + y))) :: st) h Q) : am_wp M d Y pc ls (.inr (.inl y) :: .inr (.inl x) :: st) h Q := by
  intro p l e s m args below meth c G A H locs r X hP hD hS ho hl hs hr
  have kk := k p l e s m args below meth c G A H locs r X hP hD hS ho hl (am_cs (am_lr _) (am_tl (am_tl hs))) hr
  simp only [List.map_cons, am_vv, am_wl, Int64.ofInt_toInt, Int64.ofInt_add] at kk ⊢
  exact lv_ladd X.1 X.2.1 hd kk
theorem am_lsub {x y : Int} (hd : decode M.2.1 pc = .ok (.lsub, 1)) (hq : am_rl (x - y)) (k : am_wp M d Y (pc + 1) ls (.inr (.inl (x - y)) :: st) h Q) : am_wp M d Y pc ls (.inr (.inl y) :: .inr (.inl x) :: st) h Q := by
  intro p l e s m args below meth c G A H locs r X hP hD hS ho hl hs hr
  have kk := k p l e s m args below meth c G A H locs r X hP hD hS ho hl (am_cs hq (am_tl (am_tl hs))) hr
  simp only [List.map_cons, am_vv, Int64.ofInt_sub] at kk ⊢
  exact lv_lsub X.1 X.2.1 hd kk
theorem am_lsubW {x y : Int} (hd : decode M.2.1 pc = .ok (.lsub, 1)) (k : am_wp M d Y (pc + 1) ls (.inr (.inl (am_wl (x - y))) :: st) h Q) : am_wp M d Y pc ls (.inr (.inl y) :: .inr (.inl x) :: st) h Q := by
  intro p l e s m args below meth c G A H locs r X hP hD hS ho hl hs hr
  have kk := k p l e s m args below meth c G A H locs r X hP hD hS ho hl (am_cs (am_lr _) (am_tl (am_tl hs))) hr
  simp only [List.map_cons, am_vv, am_wl, Int64.ofInt_toInt, Int64.ofInt_sub] at kk ⊢
  exact lv_lsub X.1 X.2.1 hd kk
theorem am_lmul {x y : Int} (hd : decode M.2.1 pc = .ok (.lmul, 1)) (hq : am_rl (x * y)) (k : am_wp M d Y (pc + 1) ls (.inr (.inl (x * y)) :: st) h Q) : am_wp M d Y pc ls (.inr (.inl y) :: .inr (.inl x) :: st) h Q := by
  intro p l e s m args below meth c G A H locs r X hP hD hS ho hl hs hr
  have kk := k p l e s m args below meth c G A H locs r X hP hD hS ho hl (am_cs hq (am_tl (am_tl hs))) hr
  simp only [List.map_cons, am_vv, Int64.ofInt_mul] at kk ⊢
  exact lv_lmul X.1 X.2.1 hd kk
theorem am_lmulW {x y : Int} (hd : decode M.2.1 pc = .ok (.lmul, 1)) (k : am_wp M d Y (pc + 1) ls (.inr (.inl (am_wl (x * y))) :: st) h Q) : am_wp M d Y pc ls (.inr (.inl y) :: .inr (.inl x) :: st) h Q := by
  intro p l e s m args below meth c G A H locs r X hP hD hS ho hl hs hr
  have kk := k p l e s m args below meth c G A H locs r X hP hD hS ho hl (am_cs (am_lr _) (am_tl (am_tl hs))) hr
  simp only [List.map_cons, am_vv, am_wl, Int64.ofInt_toInt, Int64.ofInt_mul] at kk ⊢
  exact lv_lmul X.1 X.2.1 hd kk
theorem am_iand {x y : Int} (hd : decode M.2.1 pc = .ok (.iand, 1)) (k : am_wp M d Y (pc + 1) ls (.inl (am_and x y) :: st) h Q) : am_wp M d Y pc ls (.inl y :: .inl x :: st) h Q := by
  intro p l e s m args below meth c G A H locs r X hP hD hS ho hl hs hr
  have kk := k p l e s m args below meth c G A H locs r X hP hD hS ho hl (am_cs (am_ir _) (am_tl (am_tl hs))) hr
  simp only [List.map_cons, am_vv, am_and, Int32.ofInt_toInt] at kk ⊢
  exact lv_iand X.1 X.2.1 hd kk
theorem am_ior {x y : Int} (hd : decode M.2.1 pc = .ok (.ior, 1)) (k : am_wp M d Y (pc + 1) ls (.inl (am_or x y) :: st) h Q) : am_wp M d Y pc ls (.inl y :: .inl x :: st) h Q := by
  intro p l e s m args below meth c G A H locs r X hP hD hS ho hl hs hr
  have kk := k p l e s m args below meth c G A H locs r X hP hD hS ho hl (am_cs (am_ir _) (am_tl (am_tl hs))) hr
  simp only [List.map_cons, am_vv, am_or, Int32.ofInt_toInt] at kk ⊢
  exact lv_ior X.1 X.2.1 hd kk
theorem am_ixor {x y : Int} (hd : decode M.2.1 pc = .ok (.ixor, 1)) (k : am_wp M d Y (pc + 1) ls (.inl (am_xor x y) :: st) h Q) : am_wp M d Y pc ls (.inl y :: .inl x :: st) h Q := by
  intro p l e s m args below meth c G A H locs r X hP hD hS ho hl hs hr
  have kk := k p l e s m args below meth c G A H locs r X hP hD hS ho hl (am_cs (am_ir _) (am_tl (am_tl hs))) hr
  simp only [List.map_cons, am_vv, am_xor, Int32.ofInt_toInt] at kk ⊢
  exact lv_ixor X.1 X.2.1 hd kk
theorem am_ishl {x y : Int} (hd : decode M.2.1 pc = .ok (.ishl, 1)) (k : am_wp M d Y (pc + 1) ls (.inl (am_shl x y) :: st) h Q) : am_wp M d Y pc ls (.inl y :: .inl x :: st) h Q := by
  intro p l e s m args below meth c G A H locs r X hP hD hS ho hl hs hr
  have kk := k p l e s m args below meth c G A H locs r X hP hD hS ho hl (am_cs (am_ir _) (am_tl (am_tl hs))) hr
  simp only [List.map_cons, am_vv, am_shl, Int32.ofInt_toInt] at kk ⊢
  exact lv_ishl X.1 X.2.1 hd kk
theorem am_ishr {x y : Int} (hd : decode M.2.1 pc = .ok (.ishr, 1)) (k : am_wp M d Y (pc + 1) ls (.inl (am_shr x y) :: st) h Q) : am_wp M d Y pc ls (.inl y :: .inl x :: st) h Q := by
  intro p l e s m args below meth c G A H locs r X hP hD hS ho hl hs hr
  have kk := k p l e s m args below meth c G A H locs r X hP hD hS ho hl (am_cs (am_ir _) (am_tl (am_tl hs))) hr
  simp only [List.map_cons, am_vv, am_shr, Int32.ofInt_toInt] at kk ⊢
  exact lv_ishr X.1 X.2.1 hd kk
theorem am_iushr {x y : Int} (hd : decode M.2.1 pc = .ok (.iushr, 1)) (k : am_wp M d Y (pc + 1) ls (.inl (am_ushr x y) :: st) h Q) : am_wp M d Y pc ls (.inl y :: .inl x :: st) h Q := by
  intro p l e s m args below meth c G A H locs r X hP hD hS ho hl hs hr
  have kk := k p l e s m args below meth c G A H locs r X hP hD hS ho hl (am_cs (am_ir _) (am_tl (am_tl hs))) hr
  simp only [List.map_cons, am_vv, am_ushr, Int32.ofInt_toInt] at kk ⊢
  exact lv_iushr X.1 X.2.1 hd rfl kk
theorem am_i2b {x : Int} (hd : decode M.2.1 pc = .ok (.i2b, 1)) (k : am_wp M d Y (pc + 1) ls (.inl (am_b x) :: st) h Q) : am_wp M d Y pc ls (.inl x :: st) h Q := by
  intro p l e s m args below meth c G A H locs r X hP hD hS ho hl hs hr
  have kk := k p l e s m args below meth c G A H locs r X hP hD hS ho hl (am_cs (am_ir _) (am_tl hs)) hr
  simp only [List.map_cons, am_vv, am_b, Int32.ofInt_toInt] at kk ⊢
  exact lv_i2b X.1 X.2.1 hd rfl kk
theorem am_i2l {x : Int} (hd : decode M.2.1 pc = .ok (.i2l, 1)) (k : am_wp M d Y (pc + 1) ls (.inr (.inl x) :: st) h Q) : am_wp M d Y pc ls (.inl x :: st) h Q := by
  intro p l e s m args below meth c G A H locs r X hP hD hS ho hl hs hr
  have hx : am_ri x := am_hd hs
  have kk := k p l e s m args below meth c G A H locs r X hP hD hS ho hl (am_cs (show am_rl x from ⟨by have := hx.1; omega, by have := hx.2; omega⟩) (am_tl hs)) hr
  exact lv_i2l X.1 X.2.1 hd (Int32.toInt64_ofInt hx.1 (show x ≤ 2147483647 by have := hx.2; omega)) kk
theorem am_l2iW {x : Int} (hd : decode M.2.1 pc = .ok (.l2i, 1)) (k : am_wp M d Y (pc + 1) ls (.inl (am_l2i x) :: st) h Q) : am_wp M d Y pc ls (.inr (.inl x) :: st) h Q := by
  intro p l e s m args below meth c G A H locs r X hP hD hS ho hl hs hr
  have kk := k p l e s m args below meth c G A H locs r X hP hD hS ho hl (am_cs (am_ir _) (am_tl hs)) hr
  simp only [List.map_cons, am_vv, am_l2i, Int32.ofInt_toInt] at kk ⊢
  exact lv_l2i X.1 X.2.1 hd rfl kk
theorem am_lor_ {x y : Int} (hd : decode M.2.1 pc = .ok (.lor, 1)) (k : am_wp M d Y (pc + 1) ls (.inr (.inl (am_lor x y)) :: st) h Q) : am_wp M d Y pc ls (.inr (.inl y) :: .inr (.inl x) :: st) h Q := by
  intro p l e s m args below meth c G A H locs r X hP hD hS ho hl hs hr
  have kk := k p l e s m args below meth c G A H locs r X hP hD hS ho hl (am_cs (am_lr _) (am_tl (am_tl hs))) hr
  simp only [List.map_cons, am_vv, am_lor, Int64.ofInt_toInt] at kk ⊢
  exact lv_lor X.1 X.2.1 hd kk
theorem am_lshl_ {x y : Int} (hd : decode M.2.1 pc = .ok (.lshl, 1)) (k : am_wp M d Y (pc + 1) ls (.inr (.inl (am_lshl x y)) :: st) h Q) : am_wp M d Y pc ls (.inl y :: .inr (.inl x) :: st) h Q := by
  intro p l e s m args below meth c G A H locs r X hP hD hS ho hl hs hr
  have kk := k p l e s m args below meth c G A H locs r X hP hD hS ho hl (am_cs (am_lr _) (am_tl (am_tl hs))) hr
  simp only [List.map_cons, am_vv, am_lshl, Int64.ofInt_toInt] at kk ⊢
  exact lv_lshl X.1 X.2.1 hd rfl kk
theorem am_lushr_ {x y : Int} (hd : decode M.2.1 pc = .ok (.lushr, 1)) (k : am_wp M d Y (pc + 1) ls (.inr (.inl (am_lushr x y)) :: st) h Q) : am_wp M d Y pc ls (.inl y :: .inr (.inl x) :: st) h Q := by
  intro p l e s m args below meth c G A H locs r X hP hD hS ho hl hs hr
  have kk := k p l e s m args below meth c G A H locs r X hP hD hS ho hl (am_cs (am_lr _) (am_tl (am_tl hs))) hr
  simp only [List.map_cons, am_vv, am_lushr, Int64.ofInt_toInt] at kk ⊢
  exact lv_lushr X.1 X.2.1 hd rfl kk
theorem am_ne0 {y : Int} (hy : am_ri y) (h : y ≠ 0) : ¬ Int32.ofInt y = 0 := fun e => h ((am_ieq hy (by unfold am_ri; omega)).mp (e.trans am_zero.symm))
theorem am_lne0 {y : Int} (hy : am_rl y) (h : y ≠ 0) : ¬ Int64.ofInt y = 0 := fun e => h ((am_leq hy (by unfold am_rl; omega)).mp (e.trans rfl))
theorem am_idiv {x y : Int} (hd : decode M.2.1 pc = .ok (.idiv, 1)) (h0 : y ≠ 0) (hq : am_ri (x.tdiv y)) (k : am_wp M d Y (pc + 1) ls (.inl (x.tdiv y) :: st) h Q) : am_wp M d Y pc ls (.inl y :: .inl x :: st) h Q := by
  intro p l e s m args below meth c G A H locs r X hP hD hS ho hl hs hr
  have hy : am_ri y := am_hd hs
  have hx : am_ri x := am_hd (am_tl hs)
  have kk := k p l e s m args below meth c G A H locs r X hP hD hS ho hl (am_cs hq (am_tl (am_tl hs))) hr
  simp only [List.map_cons, am_vv] at kk ⊢
  rw [Int32.ofInt_tdiv hx.1 (show x ≤ 2147483647 by have := hx.2; omega) hy.1 (show y ≤ 2147483647 by have := hy.2; omega)] at kk
  exact lv_idiv X.1 X.2.1 hd (am_ne0 hy h0) kk
theorem am_irem {x y : Int} (hd : decode M.2.1 pc = .ok (.irem, 1)) (h0 : y ≠ 0) (hq : am_ri (x.tmod y)) (k : am_wp M d Y (pc + 1) ls (.inl (x.tmod y) :: st) h Q) : am_wp M d Y pc ls (.inl y :: .inl x :: st) h Q := by
  intro p l e s m args below meth c G A H locs r X hP hD hS ho hl hs hr
  have hy : am_ri y := am_hd hs
  have hx : am_ri x := am_hd (am_tl hs)
  have kk := k p l e s m args below meth c G A H locs r X hP hD hS ho hl (am_cs hq (am_tl (am_tl hs))) hr
  simp only [List.map_cons, am_vv] at kk ⊢
  refine lv_irem X.1 X.2.1 hd (am_ne0 hy h0) ?_
  rw [← Int32.ofInt_tdiv hx.1 (show x ≤ 2147483647 by have := hx.2; omega) hy.1 (show y ≤ 2147483647 by have := hy.2; omega), ← Int32.ofInt_mul, ← Int32.ofInt_sub]
  have e1 : x - x.tdiv y * y = x.tmod y := by rw [Int.tmod_def, Int.mul_comm]
  rw [e1]
  exact kk
theorem am_ldiv {x y : Int} (hd : decode M.2.1 pc = .ok (.ldiv, 1)) (h0 : y ≠ 0) (hq : am_rl (x.tdiv y)) (k : am_wp M d Y (pc + 1) ls (.inr (.inl (x.tdiv y)) :: st) h Q) : am_wp M d Y pc ls (.inr (.inl y) :: .inr (.inl x) :: st) h Q := by
  intro p l e s m args below meth c G A H locs r X hP hD hS ho hl hs hr
  have hy : am_rl y := am_hd hs
  have hx : am_rl x := am_hd (am_tl hs)
  have kk := k p l e s m args below meth c G A H locs r X hP hD hS ho hl (am_cs hq (am_tl (am_tl hs))) hr
  simp only [List.map_cons, am_vv] at kk ⊢
  rw [Int64.ofInt_tdiv hx.1 (show x ≤ 9223372036854775807 by have := hx.2; omega) hy.1 (show y ≤ 9223372036854775807 by have := hy.2; omega)] at kk
  exact lv_ldiv X.1 X.2.1 hd (am_lne0 hy h0) kk
theorem am_dupI {x : Int} (hd : decode M.2.1 pc = .ok (.dup, 1)) (k : am_wp M d Y (pc + 1) ls (.inl x :: .inl x :: st) h Q) : am_wp M d Y pc ls (.inl x :: st) h Q := by
  intro p l e s m args below meth c G A H locs r X hP hD hS ho hl hs hr
  exact lv_dup X.1 X.2.1 hd rfl (k p l e s m args below meth c G A H locs r X hP hD hS ho hl (am_cs (am_hd hs) hs) hr)
theorem am_popI {x : Int} (hd : decode M.2.1 pc = .ok (.pop, 1)) (k : am_wp M d Y (pc + 1) ls (st) h Q) : am_wp M d Y pc ls (.inl x :: st) h Q := by
  intro p l e s m args below meth c G A H locs r X hP hD hS ho hl hs hr
  exact lv_pop X.1 X.2.1 hd rfl (k p l e s m args below meth c G A H locs r X hP hD hS ho hl (am_tl hs) hr)
theorem am_dupR {x : Nat} (hd : decode M.2.1 pc = .ok (.dup, 1)) (k : am_wp M d Y (pc + 1) ls (.inr (.inr x) :: .inr (.inr x) :: st) h Q) : am_wp M d Y pc ls (.inr (.inr x) :: st) h Q := by
  intro p l e s m args below meth c G A H locs r X hP hD hS ho hl hs hr
  exact lv_dup X.1 X.2.1 hd rfl (k p l e s m args below meth c G A H locs r X hP hD hS ho hl (am_cs (am_hd hs) hs) hr)
theorem am_popR {x : Nat} (hd : decode M.2.1 pc = .ok (.pop, 1)) (k : am_wp M d Y (pc + 1) ls (st) h Q) : am_wp M d Y pc ls (.inr (.inr x) :: st) h Q := by
  intro p l e s m args below meth c G A H locs r X hP hD hS ho hl hs hr
  exact lv_pop X.1 X.2.1 hd rfl (k p l e s m args below meth c G A H locs r X hP hD hS ho hl (am_tl hs) hr)
theorem am_dup2 {x : Int} {q : Nat} (hd : decode M.2.1 pc = .ok (.dup2, 1)) (k : am_wp M d Y (pc + 1) ls (.inl x :: .inr (.inr q) :: .inl x :: .inr (.inr q) :: st) h Q) : am_wp M d Y pc ls (.inl x :: .inr (.inr q) :: st) h Q := by
  intro p l e s m args below meth c G A H locs r X hP hD hS ho hl hs hr
  exact lv_dup2_11 X.1 X.2.1 hd rfl rfl (k p l e s m args below meth c G A H locs r X hP hD hS ho hl (am_cs (am_hd hs) (am_cs (am_hd (am_tl hs)) hs)) hr)
theorem am_nle {a b : Int} (h : ¬ a ≤ b) : b < a := by omega
theorem am_nlt {a b : Int} (h : ¬ a < b) : b ≤ a := by omega
theorem am_icmp_eq {x y : Int} {off : Int} {tgt : Nat} (hd : decode M.2.1 pc = .ok (.if_icmp .eq off, 3)) (ht : (pc : Int) + off = (tgt : Int)) (kt : x = y → am_wp M d Y (tgt) ls (st) h Q) (kf : ¬ x = y → am_wp M d Y (pc + 3) ls (st) h Q) : am_wp M d Y pc ls (.inl y :: .inl x :: st) h Q := by
  intro p l e s m args below meth c G A H locs r X hP hD hS ho hl hs hr
  have hy : am_ri y := am_hd hs
  have hx : am_ri x := am_hd (am_tl hs)
  have kt_ := fun z => kt z p l e s m args below meth c G A H locs r X hP hD hS ho hl (am_tl (am_tl hs)) hr
  have kf_ := fun z => kf z p l e s m args below meth c G A H locs r X hP hD hS ho hl (am_tl (am_tl hs)) hr
  exact lv_icmp_eq X.1 X.2.1 hd ht (fun e => kt_ ((am_ieq hx hy).mp e)) (fun e => kf_ (fun z => e ((am_ieq hx hy).mpr z)))
theorem am_icmp_ne {x y : Int} {off : Int} {tgt : Nat} (hd : decode M.2.1 pc = .ok (.if_icmp .ne off, 3)) (ht : (pc : Int) + off = (tgt : Int)) (kt : ¬ x = y → am_wp M d Y (tgt) ls (st) h Q) (kf : x = y → am_wp M d Y (pc + 3) ls (st) h Q) : am_wp M d Y pc ls (.inl y :: .inl x :: st) h Q := by
  intro p l e s m args below meth c G A H locs r X hP hD hS ho hl hs hr
  have hy : am_ri y := am_hd hs
  have hx : am_ri x := am_hd (am_tl hs)
  have kt_ := fun z => kt z p l e s m args below meth c G A H locs r X hP hD hS ho hl (am_tl (am_tl hs)) hr
  have kf_ := fun z => kf z p l e s m args below meth c G A H locs r X hP hD hS ho hl (am_tl (am_tl hs)) hr
  exact lv_icmp_ne X.1 X.2.1 hd ht (fun e => kt_ (fun z => e ((am_ieq hx hy).mpr z))) (fun e => kf_ ((am_ieq hx hy).mp e))
theorem am_icmp_lt {x y : Int} {off : Int} {tgt : Nat} (hd : decode M.2.1 pc = .ok (.if_icmp .lt off, 3)) (ht : (pc : Int) + off = (tgt : Int)) (kt : x < y → am_wp M d Y (tgt) ls (st) h Q) (kf : y ≤ x → am_wp M d Y (pc + 3) ls (st) h Q) : am_wp M d Y pc ls (.inl y :: .inl x :: st) h Q := by
  intro p l e s m args below meth c G A H locs r X hP hD hS ho hl hs hr
  have hy : am_ri y := am_hd hs
  have hx : am_ri x := am_hd (am_tl hs)
  have kt_ := fun z => kt z p l e s m args below meth c G A H locs r X hP hD hS ho hl (am_tl (am_tl hs)) hr
  have kf_ := fun z => kf z p l e s m args below meth c G A H locs r X hP hD hS ho hl (am_tl (am_tl hs)) hr
  exact lv_icmp_lt X.1 X.2.1 hd ht (fun e => kt_ ((am_ilt hx hy).mp e)) (fun e => kf_ (by have := mt (am_ilt hx hy).mpr e; omega))
theorem am_icmp_ge {x y : Int} {off : Int} {tgt : Nat} (hd : decode M.2.1 pc = .ok (.if_icmp .ge off, 3)) (ht : (pc : Int) + off = (tgt : Int)) (kt : y ≤ x → am_wp M d Y (tgt) ls (st) h Q) (kf : x < y → am_wp M d Y (pc + 3) ls (st) h Q) : am_wp M d Y pc ls (.inl y :: .inl x :: st) h Q := by
  intro p l e s m args below meth c G A H locs r X hP hD hS ho hl hs hr
  have hy : am_ri y := am_hd hs
  have hx : am_ri x := am_hd (am_tl hs)
  have kt_ := fun z => kt z p l e s m args below meth c G A H locs r X hP hD hS ho hl (am_tl (am_tl hs)) hr
  have kf_ := fun z => kf z p l e s m args below meth c G A H locs r X hP hD hS ho hl (am_tl (am_tl hs)) hr
  exact lv_icmp_ge X.1 X.2.1 hd ht (fun e => kt_ ((am_ile hy hx).mp e)) (fun e => kf_ (by have := mt (am_ile hy hx).mpr e; omega))
theorem am_icmp_gt {x y : Int} {off : Int} {tgt : Nat} (hd : decode M.2.1 pc = .ok (.if_icmp .gt off, 3)) (ht : (pc : Int) + off = (tgt : Int)) (kt : y < x → am_wp M d Y (tgt) ls (st) h Q) (kf : x ≤ y → am_wp M d Y (pc + 3) ls (st) h Q) : am_wp M d Y pc ls (.inl y :: .inl x :: st) h Q := by
  intro p l e s m args below meth c G A H locs r X hP hD hS ho hl hs hr
  have hy : am_ri y := am_hd hs
  have hx : am_ri x := am_hd (am_tl hs)
  have kt_ := fun z => kt z p l e s m args below meth c G A H locs r X hP hD hS ho hl (am_tl (am_tl hs)) hr
  have kf_ := fun z => kf z p l e s m args below meth c G A H locs r X hP hD hS ho hl (am_tl (am_tl hs)) hr
  exact lv_icmp_gt X.1 X.2.1 hd ht (fun e => kt_ ((am_ilt hy hx).mp e)) (fun e => kf_ (by have := mt (am_ilt hy hx).mpr e; omega))
theorem am_icmp_le {x y : Int} {off : Int} {tgt : Nat} (hd : decode M.2.1 pc = .ok (.if_icmp .le off, 3)) (ht : (pc : Int) + off = (tgt : Int)) (kt : x ≤ y → am_wp M d Y (tgt) ls (st) h Q) (kf : y < x → am_wp M d Y (pc + 3) ls (st) h Q) : am_wp M d Y pc ls (.inl y :: .inl x :: st) h Q := by
  intro p l e s m args below meth c G A H locs r X hP hD hS ho hl hs hr
  have hy : am_ri y := am_hd hs
  have hx : am_ri x := am_hd (am_tl hs)
  have kt_ := fun z => kt z p l e s m args below meth c G A H locs r X hP hD hS ho hl (am_tl (am_tl hs)) hr
  have kf_ := fun z => kf z p l e s m args below meth c G A H locs r X hP hD hS ho hl (am_tl (am_tl hs)) hr
  exact lv_icmp_le X.1 X.2.1 hd ht (fun e => kt_ ((am_ile hx hy).mp e)) (fun e => kf_ (by have := mt (am_ile hx hy).mpr e; omega))
theorem am_if_eq {x : Int} {off : Int} {tgt : Nat} (hd : decode M.2.1 pc = .ok (.ifCond .eq off, 3)) (ht : (pc : Int) + off = (tgt : Int)) (kt : x = 0 → am_wp M d Y (tgt) ls (st) h Q) (kf : ¬ x = 0 → am_wp M d Y (pc + 3) ls (st) h Q) : am_wp M d Y pc ls (.inl x :: st) h Q := by
  intro p l e s m args below meth c G A H locs r X hP hD hS ho hl hs hr
  have hx : am_ri x := am_hd hs
  have hy : am_ri 0 := ⟨by omega, by omega⟩
  have kt_ := fun z => kt z p l e s m args below meth c G A H locs r X hP hD hS ho hl (am_tl hs) hr
  have kf_ := fun z => kf z p l e s m args below meth c G A H locs r X hP hD hS ho hl (am_tl hs) hr
  exact lv_if_eq X.1 X.2.1 hd ht (fun e => kt_ ((am_ieq hx hy).mp e)) (fun e => kf_ (fun z => e ((am_ieq hx hy).mpr z)))
theorem am_if_ne {x : Int} {off : Int} {tgt : Nat} (hd : decode M.2.1 pc = .ok (.ifCond .ne off, 3)) (ht : (pc : Int) + off = (tgt : Int)) (kt : ¬ x = 0 → am_wp M d Y (tgt) ls (st) h Q) (kf : x = 0 → am_wp M d Y (pc + 3) ls (st) h Q) : am_wp M d Y pc ls (.inl x :: st) h Q := by
  intro p l e s m args below meth c G A H locs r X hP hD hS ho hl hs hr
  have hx : am_ri x := am_hd hs
  have hy : am_ri 0 := ⟨by omega, by omega⟩
  have kt_ := fun z => kt z p l e s m args below meth c G A H locs r X hP hD hS ho hl (am_tl hs) hr
  have kf_ := fun z => kf z p l e s m args below meth c G A H locs r X hP hD hS ho hl (am_tl hs) hr
  exact lv_if_ne X.1 X.2.1 hd ht (fun e => kt_ (fun z => e ((am_ieq hx hy).mpr z))) (fun e => kf_ ((am_ieq hx hy).mp e))
theorem am_if_lt {x : Int} {off : Int} {tgt : Nat} (hd : decode M.2.1 pc = .ok (.ifCond .lt off, 3)) (ht : (pc : Int) + off = (tgt : Int)) (kt : x < 0 → am_wp M d Y (tgt) ls (st) h Q) (kf : 0 ≤ x → am_wp M d Y (pc + 3) ls (st) h Q) : am_wp M d Y pc ls (.inl x :: st) h Q := by
  intro p l e s m args below meth c G A H locs r X hP hD hS ho hl hs hr
  have hx : am_ri x := am_hd hs
  have hy : am_ri 0 := ⟨by omega, by omega⟩
  have kt_ := fun z => kt z p l e s m args below meth c G A H locs r X hP hD hS ho hl (am_tl hs) hr
  have kf_ := fun z => kf z p l e s m args below meth c G A H locs r X hP hD hS ho hl (am_tl hs) hr
  exact lv_if_lt X.1 X.2.1 hd ht (fun e => kt_ ((am_ilt hx hy).mp e)) (fun e => kf_ (by have := mt (am_ilt hx hy).mpr e; omega))
theorem am_if_ge {x : Int} {off : Int} {tgt : Nat} (hd : decode M.2.1 pc = .ok (.ifCond .ge off, 3)) (ht : (pc : Int) + off = (tgt : Int)) (kt : 0 ≤ x → am_wp M d Y (tgt) ls (st) h Q) (kf : x < 0 → am_wp M d Y (pc + 3) ls (st) h Q) : am_wp M d Y pc ls (.inl x :: st) h Q := by
  intro p l e s m args below meth c G A H locs r X hP hD hS ho hl hs hr
  have hx : am_ri x := am_hd hs
  have hy : am_ri 0 := ⟨by omega, by omega⟩
  have kt_ := fun z => kt z p l e s m args below meth c G A H locs r X hP hD hS ho hl (am_tl hs) hr
  have kf_ := fun z => kf z p l e s m args below meth c G A H locs r X hP hD hS ho hl (am_tl hs) hr
  exact lv_if_ge X.1 X.2.1 hd ht (fun e => kt_ ((am_ile hy hx).mp e)) (fun e => kf_ (by have := mt (am_ile hy hx).mpr e; omega))
theorem am_if_gt {x : Int} {off : Int} {tgt : Nat} (hd : decode M.2.1 pc = .ok (.ifCond .gt off, 3)) (ht : (pc : Int) + off = (tgt : Int)) (kt : 0 < x → am_wp M d Y (tgt) ls (st) h Q) (kf : x ≤ 0 → am_wp M d Y (pc + 3) ls (st) h Q) : am_wp M d Y pc ls (.inl x :: st) h Q := by
  intro p l e s m args below meth c G A H locs r X hP hD hS ho hl hs hr
  have hx : am_ri x := am_hd hs
  have hy : am_ri 0 := ⟨by omega, by omega⟩
  have kt_ := fun z => kt z p l e s m args below meth c G A H locs r X hP hD hS ho hl (am_tl hs) hr
  have kf_ := fun z => kf z p l e s m args below meth c G A H locs r X hP hD hS ho hl (am_tl hs) hr
  exact lv_if_gt X.1 X.2.1 hd ht (fun e => kt_ ((am_ilt hy hx).mp e)) (fun e => kf_ (by have := mt (am_ilt hy hx).mpr e; omega))
theorem am_if_le {x : Int} {off : Int} {tgt : Nat} (hd : decode M.2.1 pc = .ok (.ifCond .le off, 3)) (ht : (pc : Int) + off = (tgt : Int)) (kt : x ≤ 0 → am_wp M d Y (tgt) ls (st) h Q) (kf : 0 < x → am_wp M d Y (pc + 3) ls (st) h Q) : am_wp M d Y pc ls (.inl x :: st) h Q := by
  intro p l e s m args below meth c G A H locs r X hP hD hS ho hl hs hr
  have hx : am_ri x := am_hd hs
  have hy : am_ri 0 := ⟨by omega, by omega⟩
  have kt_ := fun z => kt z p l e s m args below meth c G A H locs r X hP hD hS ho hl (am_tl hs) hr
  have kf_ := fun z => kf z p l e s m args below meth c G A H locs r X hP hD hS ho hl (am_tl hs) hr
  exact lv_if_le X.1 X.2.1 hd ht (fun e => kt_ ((am_ile hx hy).mp e)) (fun e => kf_ (by have := mt (am_ile hx hy).mpr e; omega))
theorem am_goto {off : Int} {tgt : Nat} (hd : decode M.2.1 pc = .ok (.goto off, 3)) (ht : (pc : Int) + off = (tgt : Int)) (k : am_wp M d Y (tgt) ls (st) h Q) : am_wp M d Y pc ls (st) h Q := by
  intro p l e s m args below meth c G A H locs r X hP hD hS ho hl hs hr
  exact lv_goto X.1 X.2.1 hd ht (k p l e s m args below meth c G A H locs r X hP hD hS ho hl hs hr)
theorem am_lcmp_def (x y : Int) (hx : am_rl x) (hy : am_rl y) : lg_cmp (Int64.ofInt x) (Int64.ofInt y) = Int32.ofInt (if y < x then 1 else if x = y then 0 else -1) := by
  unfold lg_cmp
  by_cases h1 : y < x
  · rw [if_pos ((am_llt hy hx).mpr h1), if_pos h1]; rfl
  · rw [if_neg (fun e => h1 ((am_llt hy hx).mp e)), if_neg h1]
    by_cases h2 : x = y
    · rw [if_pos ((am_leq hx hy).mpr h2), if_pos h2]; rfl
    · rw [if_neg (fun e => h2 ((am_leq hx hy).mp e)), if_neg h2]; rfl
theorem am_lcmp {x y : Int} (hd : decode M.2.1 pc = .ok (.lcmp, 1)) (k1 : y < x → am_wp M d Y (pc + 1) ls (.inl 1 :: st) h Q) (k2 : x = y → am_wp M d Y (pc + 1) ls (.inl 0 :: st) h Q) (k3 : x < y → am_wp M d Y (pc + 1) ls (.inl (-1) :: st) h Q) : am_wp M d Y pc ls (.inr (.inl y) :: .inr (.inl x) :: st) h Q := by
  intro p l e s m args below meth c G A H locs r X hP hD hS ho hl hs hr
  have hy : am_rl y := am_hd hs
  have hx : am_rl x := am_hd (am_tl hs)
  refine W.lcmp X.1 X.2.1 hd ?_
  rw [am_lcmp_def x y hx hy]
  by_cases h1 : y < x
  · rw [if_pos h1]; exact k1 h1 p l e s m args below meth c G A H locs r X hP hD hS ho hl (am_cs (show am_ri 1 from ⟨by omega, by omega⟩) (am_tl (am_tl hs))) hr
  · rw [if_neg h1]
    by_cases h2 : x = y
    · rw [if_pos h2]; exact k2 h2 p l e s m args below meth c G A H locs r X hP hD hS ho hl (am_cs (show am_ri 0 from ⟨by omega, by omega⟩) (am_tl (am_tl hs))) hr
    · rw [if_neg h2]; exact k3 (by omega) p l e s m args below meth c G A H locs r X hP hD hS ho hl (am_cs (show am_ri (-1) from ⟨by omega, by omega⟩) (am_tl (am_tl hs))) hr
def am_sw (K : Nat → Prop) (x : Int) (pc : Nat) : Int → List Int → Prop
  | _, [] => True
  | lo, off :: l => (x = lo → K ((pc : Int) + off).toNat) ∧ am_sw K x pc (lo + 1) l
theorem am_sw_at {K : Nat → Prop} {x : Int} {pc : Nat} : ∀ (l : List Int) (lo : Int) (i : Nat) (off : Int), am_sw K x pc lo l → l[i]? = some off → x = lo + i → K ((pc : Int) + off).toNat
  | [], _, _, _, _, h, _ => by simp at h
  | _ :: _, lo, 0, _, hs, h, e => by
    simp at h
    subst h
    exact hs.1 (by simpa using e)
  | _ :: l, lo, i + 1, off, hs, h, e => am_sw_at l (lo + 1) i off hs.2 (by simpa using h) (by omega)
theorem am_tsw {x dflt lo hi : Int} {offs : Array Int} {len : Nat} (hd : decode M.2.1 pc = .ok (.tableswitch dflt lo hi offs, len)) (hlen : lo + offs.size = hi + 1) (hpos : offs.toList.all (fun o => decide (0 ≤ (pc : Int) + o)) = true) (hpd : 0 ≤ (pc : Int) + dflt) (hrl : -2147483648 ≤ lo ∧ hi < 2147483648) (kd : (x < lo ∨ hi < x) → am_wp M d Y (((pc : Int) + dflt).toNat) ls (st) h Q) (ks : am_sw (fun t => am_wp M d Y t ls st h Q) x pc lo offs.toList) : am_wp M d Y pc ls (.inl x :: st) h Q := by
  intro p l e s m args below meth c G A H locs r X hP hD hS ho hl hs hr
  have hx : am_ri x := am_hd hs
  by_cases h1 : x < lo ∨ hi < x
  · refine lv_tableOut X.1 X.2.1 hd (by rw [am_i hx]; exact h1) (tgt := ((pc : Int) + dflt).toNat) (by omega) (kd h1 p l e s m args below meth c G A H locs r X hP hD hS ho hl (am_tl hs) hr)
  · have h2 : ¬ x < lo := fun z => h1 (Or.inl z)
    have h3 : ¬ hi < x := fun z => h1 (Or.inr z)
    have hi2 : (x - lo).toNat < offs.size := by omega
    have hof : offs[(x - lo).toNat]? = some offs[(x - lo).toNat] := Array.getElem?_eq_getElem hi2
    have hol : offs.toList[(x - lo).toNat]? = some offs[(x - lo).toNat] := by rw [Array.getElem?_toList]; exact hof
    have hp : 0 ≤ (pc : Int) + offs[(x - lo).toNat] := by simpa using List.all_eq_true.mp hpos _ (List.mem_of_getElem? hol)
    exact lv_tableIn X.1 X.2.1 hd (by rw [am_i hx]; exact h2) (by rw [am_i hx]; exact h3) (by rw [am_i hx]; exact hof) (tgt := ((pc : Int) + offs[(x - lo).toNat]).toNat) (by omega) (am_sw_at _ _ _ _ ks hol (by omega) p l e s m args below meth c G A H locs r X hP hD hS ho hl (am_tl hs) hr)
end
