/-! rows once more, over a walk of any end and room: for what makes cells, throws and catches, and for the law itself -/
def an_W (p : Program) (l : Launch) (e : Env) (R : Room) (s : State) (m : MethodId) (args : Array Value) (below : List Frame) (meth : Method) (c : Code) (G : am_G) (A : Nat → Prop) (cs ss : Nat) (E : State → Prop) (M : am_M) (Y : am_Y) (pc : Nat) (ls : am_L) (st : List am_V) (h : am_H) : Prop :=
  am_X M p s m args meth c G A → ∀ (H : Heap) (locs : List Loc) (r : Array Slot), va_P G.1 am_cl (am_c G.2.1 G.2.2.1 Y h) H → va_D A (am_c G.2.1 G.2.2.1 Y h) → va_S A s.heap H locs → am_ok Y h → am_ll ls → (∀ v ∈ st, am_rv v) → am_lv G.2.1 M.2.2.1 ls r →
    W p l e R s m args below meth c H locs cs ss E (F0 m pc r (st.map (am_vv G.2.1)))
theorem am_D_of {A : Nat → Prop} {ad : Nat → Nat} {ka : Nat → ClassId} {Y : am_Y} {h h1 : am_H} (hD : va_D A (am_c ad ka Y h)) : va_D A (am_c ad ka Y h1) := by
  have key : ∀ (k : Nat) (q : Nat × va_E), (am_c ad ka Y h1)[k]? = some q → ∃ q0, (am_c ad ka Y h)[k]? = some q0 ∧ q0.1 = q.1 := by
    intro k q hq
    obtain ⟨y, hy, rfl⟩ := am_c_lt hq
    exact ⟨_, am_c_at hy, rfl⟩
  refine ⟨fun i j x y hi hj hxy => ?_, fun k q hq => ?_⟩
  · obtain ⟨x0, g1, g2⟩ := key i x hi
    obtain ⟨y0, g3, g4⟩ := key j y hj
    exact hD.1 i j x0 y0 g1 g3 (g2.trans (hxy.trans g4.symm))
  · obtain ⟨q0, g1, g2⟩ := key k q hq
    rw [← g2]
    exact hD.2 k q0 g1
section
variable {p : Program} {l : Launch} {e : Env} {R : Room} {s : State} {m : MethodId} {args : Array Value} {below : List Frame} {meth : Method} {c : Code} {G : am_G} {A : Nat → Prop} {cs ss : Nat} {E : State → Prop}
variable {M M' : am_M} {d d' : Nat} {Y : am_Y} {pc : Nat} {ls : am_L} {st st0 : List am_V} {h : am_H} {Q' : Option am_V → am_H → Prop}
theorem an_W.rg (k : am_ok Y h → am_ll ls → (∀ v ∈ st, am_rv v) → an_W p l e R s m args below meth c G A cs ss E M Y pc ls st h) : an_W p l e R s m args below meth c G A cs ss E M Y pc ls st h :=
  fun X H locs r hP hD hS ho hl hs hr => k ho hl hs X H locs r hP hD hS ho hl hs hr
theorem an_W.less {ls' : am_L} (k : an_W p l e R s m args below meth c G A cs ss E M Y pc ls' st h) (hle : ∀ (i : Nat) (v : am_V), ls'[i]? = some (some v) → ls[i]? = some (some v)) : an_W p l e R s m args below meth c G A cs ss E M Y pc ls st h :=
  fun X H locs r hP hD hS ho hl hs hr => k X H locs r hP hD hS ho (fun i v hv => hl i v (hle i v hv)) hs ⟨hr.1, hr.2.1, fun i v hv => hr.2.2 i v (hle i v hv)⟩
theorem an_iconst {n : Int} (hd : decode M.2.1 pc = .ok (.iconst n, 1)) (hn : -2147483648 ≤ n ∧ n < 2147483648) (k : an_W p l e R s m args below meth c G A cs ss E M Y (pc + 1) ls (.inl n :: st) h) : an_W p l e R s m args below meth c G A cs ss E M Y pc ls (st) h := by
  intro X H locs r hP hD hS ho hl hs hr
  exact lv_iconst X.1 X.2.1 hd rfl (k X H locs r hP hD hS ho hl (am_cs hn hs) hr)
theorem an_bipush {n : Int} (hd : decode M.2.1 pc = .ok (.bipush n, 2)) (hn : -128 ≤ n ∧ n ≤ 127) (k : an_W p l e R s m args below meth c G A cs ss E M Y (pc + 2) ls (.inl n :: st) h) : an_W p l e R s m args below meth c G A cs ss E M Y pc ls (st) h := by
  intro X H locs r hP hD hS ho hl hs hr
  exact lv_bipush X.1 X.2.1 hd (Int8.toInt32_ofInt hn.1 hn.2) (k X H locs r hP hD hS ho hl (am_cs (show am_ri n from ⟨by omega, by omega⟩) hs) hr)
theorem an_sipush {n : Int} (hd : decode M.2.1 pc = .ok (.sipush n, 3)) (hn : -32768 ≤ n ∧ n ≤ 32767) (k : an_W p l e R s m args below meth c G A cs ss E M Y (pc + 3) ls (.inl n :: st) h) : an_W p l e R s m args below meth c G A cs ss E M Y pc ls (st) h := by
  intro X H locs r hP hD hS ho hl hs hr
  exact lv_sipush X.1 X.2.1 hd (Int16.toInt32_ofInt hn.1 hn.2) (k X H locs r hP hD hS ho hl (am_cs (show am_ri n from ⟨by omega, by omega⟩) hs) hr)
theorem an_iload {i : Nat} {x : Int} (hd : decode M.2.1 pc = .ok (.iload i, 2)) (hv : ls[i]? = some (some (.inl x))) (k : an_W p l e R s m args below meth c G A cs ss E M Y (pc + 2) ls (.inl x :: st) h) : an_W p l e R s m args below meth c G A cs ss E M Y pc ls (st) h := by
  intro X H locs r hP hD hS ho hl hs hr
  exact lv_iload X.1 X.2.1 hd (hr.2.2 _ _ hv) (k X H locs r hP hD hS ho hl (am_cs (hl _ _ hv) hs) hr)
theorem an_iload_n {i : Fin 4} {x : Int} (hd : decode M.2.1 pc = .ok (.iload_n i, 1)) (hv : ls[(i : Nat)]? = some (some (.inl x))) (k : an_W p l e R s m args below meth c G A cs ss E M Y (pc + 1) ls (.inl x :: st) h) : an_W p l e R s m args below meth c G A cs ss E M Y pc ls (st) h := by
  intro X H locs r hP hD hS ho hl hs hr
  exact lv_iload_n X.1 X.2.1 hd rfl (hr.2.2 _ _ hv) (k X H locs r hP hD hS ho hl (am_cs (hl _ _ hv) hs) hr)
theorem an_lload {i : Nat} {x : Int} (hd : decode M.2.1 pc = .ok (.lload i, 2)) (hv : ls[i]? = some (some (.inr (.inl x)))) (k : an_W p l e R s m args below meth c G A cs ss E M Y (pc + 2) ls (.inr (.inl x) :: st) h) : an_W p l e R s m args below meth c G A cs ss E M Y pc ls (st) h := by
  intro X H locs r hP hD hS ho hl hs hr
  exact lv_lload X.1 X.2.1 hd (hr.2.2 _ _ hv) (k X H locs r hP hD hS ho hl (am_cs (hl _ _ hv) hs) hr)
theorem an_lload_n {i : Fin 4} {x : Int} (hd : decode M.2.1 pc = .ok (.lload_n i, 1)) (hv : ls[(i : Nat)]? = some (some (.inr (.inl x)))) (k : an_W p l e R s m args below meth c G A cs ss E M Y (pc + 1) ls (.inr (.inl x) :: st) h) : an_W p l e R s m args below meth c G A cs ss E M Y pc ls (st) h := by
  intro X H locs r hP hD hS ho hl hs hr
  exact lv_lload_n X.1 X.2.1 hd rfl (hr.2.2 _ _ hv) (k X H locs r hP hD hS ho hl (am_cs (hl _ _ hv) hs) hr)
theorem an_aload {i : Nat} {x : Nat} (hd : decode M.2.1 pc = .ok (.aload i, 2)) (hv : ls[i]? = some (some (.inr (.inr x)))) (k : an_W p l e R s m args below meth c G A cs ss E M Y (pc + 2) ls (.inr (.inr x) :: st) h) : an_W p l e R s m args below meth c G A cs ss E M Y pc ls (st) h := by
  intro X H locs r hP hD hS ho hl hs hr
  exact lv_aload X.1 X.2.1 hd (hr.2.2 _ _ hv) (k X H locs r hP hD hS ho hl (am_cs (hl _ _ hv) hs) hr)
theorem an_aload_n {i : Fin 4} {x : Nat} (hd : decode M.2.1 pc = .ok (.aload_n i, 1)) (hv : ls[(i : Nat)]? = some (some (.inr (.inr x)))) (k : an_W p l e R s m args below meth c G A cs ss E M Y (pc + 1) ls (.inr (.inr x) :: st) h) : an_W p l e R s m args below meth c G A cs ss E M Y pc ls (st) h := by
  intro X H locs r hP hD hS ho hl hs hr
  exact lv_aload_n X.1 X.2.1 hd rfl (hr.2.2 _ _ hv) (k X H locs r hP hD hS ho hl (am_cs (hl _ _ hv) hs) hr)
theorem an_istore {i : Nat} {x : Int} {ls1 : am_L} (hd : decode M.2.1 pc = .ok (.istore i, 2)) (hn : Nat.ble (i + 1) M.2.2.1 = true) (hb : am_nl ls i = true) (he : ls.set i (some (.inl x)) = ls1) (k : an_W p l e R s m args below meth c G A cs ss E M Y (pc + 2) ls1 (st) h) : an_W p l e R s m args below meth c G A cs ss E M Y pc ls (.inl x :: st) h := by
  intro X H locs r hP hD hS ho hl hs hr
  subst he
  exact lv_istore X.1 X.2.1 hd (am_has hr) (Nat.le_of_ble_eq_true hn) rfl (fun r' hr' => k X H locs r' hP hD hS ho (am_ll_set hl (am_hd hs)) (am_tl hs) (am_set1 hb hr'))
theorem an_istore_n {i : Fin 4} {x : Int} {ls1 : am_L} (hd : decode M.2.1 pc = .ok (.istore_n i, 1)) (hn : Nat.ble ((i : Nat) + 1) M.2.2.1 = true) (hb : am_nl ls i = true) (he : ls.set i (some (.inl x)) = ls1) (k : an_W p l e R s m args below meth c G A cs ss E M Y (pc + 1) ls1 (st) h) : an_W p l e R s m args below meth c G A cs ss E M Y pc ls (.inl x :: st) h := by
  intro X H locs r hP hD hS ho hl hs hr
  subst he
  exact lv_istore_n X.1 X.2.1 hd rfl (am_has hr) (Nat.le_of_ble_eq_true hn) rfl (fun r' hr' => k X H locs r' hP hD hS ho (am_ll_set hl (am_hd hs)) (am_tl hs) (am_set1 hb hr'))
theorem an_astore {i : Nat} {x : Nat} {ls1 : am_L} (hd : decode M.2.1 pc = .ok (.astore i, 2)) (hn : Nat.ble (i + 1) M.2.2.1 = true) (hb : am_nl ls i = true) (he : ls.set i (some (.inr (.inr x))) = ls1) (k : an_W p l e R s m args below meth c G A cs ss E M Y (pc + 2) ls1 (st) h) : an_W p l e R s m args below meth c G A cs ss E M Y pc ls (.inr (.inr x) :: st) h := by
  intro X H locs r hP hD hS ho hl hs hr
  subst he
  exact lv_astore X.1 X.2.1 hd (am_has hr) (Nat.le_of_ble_eq_true hn) rfl (fun r' hr' => k X H locs r' hP hD hS ho (am_ll_set hl (am_hd hs)) (am_tl hs) (am_set1 hb hr'))
theorem an_astore_n {i : Fin 4} {x : Nat} {ls1 : am_L} (hd : decode M.2.1 pc = .ok (.astore_n i, 1)) (hn : Nat.ble ((i : Nat) + 1) M.2.2.1 = true) (hb : am_nl ls i = true) (he : ls.set i (some (.inr (.inr x))) = ls1) (k : an_W p l e R s m args below meth c G A cs ss E M Y (pc + 1) ls1 (st) h) : an_W p l e R s m args below meth c G A cs ss E M Y pc ls (.inr (.inr x) :: st) h := by
  intro X H locs r hP hD hS ho hl hs hr
  subst he
  exact lv_astore_n X.1 X.2.1 hd rfl (am_has hr) (Nat.le_of_ble_eq_true hn) rfl (fun r' hr' => k X H locs r' hP hD hS ho (am_ll_set hl (am_hd hs)) (am_tl hs) (am_set1 hb hr'))
theorem an_lstore {i : Nat} {x : Int} {ls1 : am_L} (hd : decode M.2.1 pc = .ok (.lstore i, 2)) (hn : Nat.ble (i + 2) M.2.2.1 = true) (hb : am_nl ls i = true) (he : (ls.set i (some (.inr (.inl x)))).set (i + 1) none = ls1) (k : an_W p l e R s m args below meth c G A cs ss E M Y (pc + 2) ls1 (st) h) : an_W p l e R s m args below meth c G A cs ss E M Y pc ls (.inr (.inl x) :: st) h := by
  intro X H locs r hP hD hS ho hl hs hr
  subst he
  exact lv_lstore X.1 X.2.1 hd (am_has hr) (Nat.le_of_ble_eq_true hn) rfl (fun r' hr' => k X H locs r' hP hD hS ho (am_ll_none (am_ll_set hl (am_hd hs))) (am_tl hs) (am_set2 hb hr'))
theorem an_lstore_n {i : Fin 4} {x : Int} {ls1 : am_L} (hd : decode M.2.1 pc = .ok (.lstore_n i, 1)) (hn : Nat.ble ((i : Nat) + 2) M.2.2.1 = true) (hb : am_nl ls i = true) (he : (ls.set i (some (.inr (.inl x)))).set ((i : Nat) + 1) none = ls1) (k : an_W p l e R s m args below meth c G A cs ss E M Y (pc + 1) ls1 (st) h) : an_W p l e R s m args below meth c G A cs ss E M Y pc ls (.inr (.inl x) :: st) h := by
  intro X H locs r hP hD hS ho hl hs hr
  subst he
  exact lv_lstore_n X.1 X.2.1 hd rfl (am_has hr) (Nat.le_of_ble_eq_true hn) rfl (fun r' hr' => k X H locs r' hP hD hS ho (am_ll_none (am_ll_set hl (am_hd hs))) (am_tl hs) (am_set2 hb hr'))
theorem an_iinc {i : Nat} {x n : Int} {ls1 : am_L} (hd : decode M.2.1 pc = .ok (.iinc i n, 3)) (hv : ls[i]? = some (some (.inl x))) (hn : Nat.ble (i + 1) M.2.2.1 = true) (hb : am_nl ls i = true) (hq : am_ri (x + n)) (he : ls.set i (some (.inl (x + n))) = ls1) (k : an_W p l e R s m args below meth c G A cs ss E M Y (pc + 3) ls1 (st) h) : an_W p l e R s m args below meth c G A cs ss E M Y pc ls (st) h := by
  intro X H locs r hP hD hS ho hl hs hr
  subst he
  obtain ⟨kx, hkx⟩ := am_alx (ad := G.2.1) hv
  exact lv_iinc (v := Int32.ofInt (x + n)) X.1 X.2.1 hd (am_has hr) hkx (Int32.ofInt_add x n).symm (Nat.le_of_ble_eq_true hn) rfl (fun r' hr' => k X H locs r' hP hD hS ho (am_ll_set hl hq) hs (am_set1 hb hr'))
theorem an_iadd {x y : Int} (hd : decode M.2.1 pc = .ok (.iadd, 1)) (hq : am_ri (x + y)) (k : an_W p l e R s m args below meth c G A cs ss E M Y (pc + 1) ls (.inl (x + y) :: st) h) : an_W p l e R s m args below meth c G A cs ss E M Y pc ls (.inl y :: .inl x :: st) h := by
  intro X H locs r hP hD hS ho hl hs hr
  have kk := k X H locs r hP hD hS ho hl (am_cs hq (am_tl (am_tl hs))) hr
  simp only [List.map_cons, am_vv, Int32.ofInt_add] at kk ⊢
  exact lv_iadd X.1 X.2.1 hd kk
theorem an_isub {x y : Int} (hd : decode M.2.1 pc = .ok (.isub, 1)) (hq : am_ri (x - y)) (k : an_W p l e R s m args below meth c G A cs ss E M Y (pc + 1) ls (.inl (x - y) :: st) h) : an_W p l e R s m args below meth c G A cs ss E M Y pc ls (.inl y :: .inl x :: st) h := by
  intro X H locs r hP hD hS ho hl hs hr
  have kk := k X H locs r hP hD hS ho hl (am_cs hq (am_tl (am_tl hs))) hr
  simp only [List.map_cons, am_vv, Int32.ofInt_sub] at kk ⊢
  exact lv_isub X.1 X.2.1 hd kk
theorem an_iand {x y : Int} (hd : decode M.2.1 pc = .ok (.iand, 1)) (k : an_W p l e R s m args below meth c G A cs ss E M Y (pc + 1) ls (.inl (am_and x y) :: st) h) : an_W p l e R s m args below meth c G A cs ss E M Y pc ls (.inl y :: .inl x :: st) h := by
  intro X H locs r hP hD hS ho hl hs hr
  have kk := k X H locs r hP hD hS ho hl (am_cs (am_ir _) (am_tl (am_tl hs))) hr
  simp only [List.map_cons, am_vv, am_and, Int32.ofInt_toInt] at kk ⊢
  exact lv_iand X.1 X.2.1 hd kk
theorem an_i2l {x : Int} (hd : decode M.2.1 pc = .ok (.i2l, 1)) (k : an_W p l e R s m args below meth c G A cs ss E M Y (pc + 1) ls (.inr (.inl x) :: st) h) : an_W p l e R s m args below meth c G A cs ss E M Y pc ls (.inl x :: st) h := by
  intro X H locs r hP hD hS ho hl hs hr
  have hx : am_ri x := am_hd hs
  have kk := k X H locs r hP hD hS ho hl (am_cs (show am_rl x from ⟨by have := hx.1; omega, by have := hx.2; omega⟩) (am_tl hs)) hr
  exact lv_i2l X.1 X.2.1 hd (Int32.toInt64_ofInt hx.1 (show x ≤ 2147483647 by have := hx.2; omega)) kk
theorem an_icmp_eq {x y : Int} {off : Int} {tgt : Nat} (hd : decode M.2.1 pc = .ok (.if_icmp .eq off, 3)) (ht : (pc : Int) + off = (tgt : Int)) (kt : x = y → an_W p l e R s m args below meth c G A cs ss E M Y (tgt) ls (st) h) (kf : ¬ x = y → an_W p l e R s m args below meth c G A cs ss E M Y (pc + 3) ls (st) h) : an_W p l e R s m args below meth c G A cs ss E M Y pc ls (.inl y :: .inl x :: st) h := by
  intro X H locs r hP hD hS ho hl hs hr
  have hy : am_ri y := am_hd hs
  have hx : am_ri x := am_hd (am_tl hs)
  have kt_ := fun z => kt z X H locs r hP hD hS ho hl (am_tl (am_tl hs)) hr
  have kf_ := fun z => kf z X H locs r hP hD hS ho hl (am_tl (am_tl hs)) hr
  exact lv_icmp_eq X.1 X.2.1 hd ht (fun e => kt_ ((am_ieq hx hy).mp e)) (fun e => kf_ (fun z => e ((am_ieq hx hy).mpr z)))
theorem an_icmp_ne {x y : Int} {off : Int} {tgt : Nat} (hd : decode M.2.1 pc = .ok (.if_icmp .ne off, 3)) (ht : (pc : Int) + off = (tgt : Int)) (kt : ¬ x = y → an_W p l e R s m args below meth c G A cs ss E M Y (tgt) ls (st) h) (kf : x = y → an_W p l e R s m args below meth c G A cs ss E M Y (pc + 3) ls (st) h) : an_W p l e R s m args below meth c G A cs ss E M Y pc ls (.inl y :: .inl x :: st) h := by
  intro X H locs r hP hD hS ho hl hs hr
  have hy : am_ri y := am_hd hs
  have hx : am_ri x := am_hd (am_tl hs)
  have kt_ := fun z => kt z X H locs r hP hD hS ho hl (am_tl (am_tl hs)) hr
  have kf_ := fun z => kf z X H locs r hP hD hS ho hl (am_tl (am_tl hs)) hr
  exact lv_icmp_ne X.1 X.2.1 hd ht (fun e => kt_ (fun z => e ((am_ieq hx hy).mpr z))) (fun e => kf_ ((am_ieq hx hy).mp e))
theorem an_icmp_lt {x y : Int} {off : Int} {tgt : Nat} (hd : decode M.2.1 pc = .ok (.if_icmp .lt off, 3)) (ht : (pc : Int) + off = (tgt : Int)) (kt : x < y → an_W p l e R s m args below meth c G A cs ss E M Y (tgt) ls (st) h) (kf : y ≤ x → an_W p l e R s m args below meth c G A cs ss E M Y (pc + 3) ls (st) h) : an_W p l e R s m args below meth c G A cs ss E M Y pc ls (.inl y :: .inl x :: st) h := by
  intro X H locs r hP hD hS ho hl hs hr
  have hy : am_ri y := am_hd hs
  have hx : am_ri x := am_hd (am_tl hs)
  have kt_ := fun z => kt z X H locs r hP hD hS ho hl (am_tl (am_tl hs)) hr
  have kf_ := fun z => kf z X H locs r hP hD hS ho hl (am_tl (am_tl hs)) hr
  exact lv_icmp_lt X.1 X.2.1 hd ht (fun e => kt_ ((am_ilt hx hy).mp e)) (fun e => kf_ (by have := mt (am_ilt hx hy).mpr e; omega))
theorem an_icmp_ge {x y : Int} {off : Int} {tgt : Nat} (hd : decode M.2.1 pc = .ok (.if_icmp .ge off, 3)) (ht : (pc : Int) + off = (tgt : Int)) (kt : y ≤ x → an_W p l e R s m args below meth c G A cs ss E M Y (tgt) ls (st) h) (kf : x < y → an_W p l e R s m args below meth c G A cs ss E M Y (pc + 3) ls (st) h) : an_W p l e R s m args below meth c G A cs ss E M Y pc ls (.inl y :: .inl x :: st) h := by
  intro X H locs r hP hD hS ho hl hs hr
  have hy : am_ri y := am_hd hs
  have hx : am_ri x := am_hd (am_tl hs)
  have kt_ := fun z => kt z X H locs r hP hD hS ho hl (am_tl (am_tl hs)) hr
  have kf_ := fun z => kf z X H locs r hP hD hS ho hl (am_tl (am_tl hs)) hr
  exact lv_icmp_ge X.1 X.2.1 hd ht (fun e => kt_ ((am_ile hy hx).mp e)) (fun e => kf_ (by have := mt (am_ile hy hx).mpr e; omega))
theorem an_icmp_gt {x y : Int} {off : Int} {tgt : Nat} (hd : decode M.2.1 pc = .ok (.if_icmp .gt off, 3)) (ht : (pc : Int) + off = (tgt : Int)) (kt : y < x → an_W p l e R s m args below meth c G A cs ss E M Y (tgt) ls (st) h) (kf : x ≤ y → an_W p l e R s m args below meth c G A cs ss E M Y (pc + 3) ls (st) h) : an_W p l e R s m args below meth c G A cs ss E M Y pc ls (.inl y :: .inl x :: st) h := by
  intro X H locs r hP hD hS ho hl hs hr
  have hy : am_ri y := am_hd hs
  have hx : am_ri x := am_hd (am_tl hs)
  have kt_ := fun z => kt z X H locs r hP hD hS ho hl (am_tl (am_tl hs)) hr
  have kf_ := fun z => kf z X H locs r hP hD hS ho hl (am_tl (am_tl hs)) hr
  exact lv_icmp_gt X.1 X.2.1 hd ht (fun e => kt_ ((am_ilt hy hx).mp e)) (fun e => kf_ (by have := mt (am_ilt hy hx).mpr e; omega))
theorem an_icmp_le {x y : Int} {off : Int} {tgt : Nat} (hd : decode M.2.1 pc = .ok (.if_icmp .le off, 3)) (ht : (pc : Int) + off = (tgt : Int)) (kt : x ≤ y → an_W p l e R s m args below meth c G A cs ss E M Y (tgt) ls (st) h) (kf : y < x → an_W p l e R s m args below meth c G A cs ss E M Y (pc + 3) ls (st) h) : an_W p l e R s m args below meth c G A cs ss E M Y pc ls (.inl y :: .inl x :: st) h := by
  intro X H locs r hP hD hS ho hl hs hr
  have hy : am_ri y := am_hd hs
  have hx : am_ri x := am_hd (am_tl hs)
  have kt_ := fun z => kt z X H locs r hP hD hS ho hl (am_tl (am_tl hs)) hr
  have kf_ := fun z => kf z X H locs r hP hD hS ho hl (am_tl (am_tl hs)) hr
  exact lv_icmp_le X.1 X.2.1 hd ht (fun e => kt_ ((am_ile hx hy).mp e)) (fun e => kf_ (by have := mt (am_ile hx hy).mpr e; omega))
theorem an_if_eq {x : Int} {off : Int} {tgt : Nat} (hd : decode M.2.1 pc = .ok (.ifCond .eq off, 3)) (ht : (pc : Int) + off = (tgt : Int)) (kt : x = 0 → an_W p l e R s m args below meth c G A cs ss E M Y (tgt) ls (st) h) (kf : ¬ x = 0 → an_W p l e R s m args below meth c G A cs ss E M Y (pc + 3) ls (st) h) : an_W p l e R s m args below meth c G A cs ss E M Y pc ls (.inl x :: st) h := by
  intro X H locs r hP hD hS ho hl hs hr
  have hx : am_ri x := am_hd hs
  have hy : am_ri 0 := ⟨by omega, by omega⟩
  have kt_ := fun z => kt z X H locs r hP hD hS ho hl (am_tl hs) hr
  have kf_ := fun z => kf z X H locs r hP hD hS ho hl (am_tl hs) hr
  exact lv_if_eq X.1 X.2.1 hd ht (fun e => kt_ ((am_ieq hx hy).mp e)) (fun e => kf_ (fun z => e ((am_ieq hx hy).mpr z)))
theorem an_if_ne {x : Int} {off : Int} {tgt : Nat} (hd : decode M.2.1 pc = .ok (.ifCond .ne off, 3)) (ht : (pc : Int) + off = (tgt : Int)) (kt : ¬ x = 0 → an_W p l e R s m args below meth c G A cs ss E M Y (tgt) ls (st) h) (kf : x = 0 → an_W p l e R s m args below meth c G A cs ss E M Y (pc + 3) ls (st) h) : an_W p l e R s m args below meth c G A cs ss E M Y pc ls (.inl x :: st) h := by
  intro X H locs r hP hD hS ho hl hs hr
  have hx : am_ri x := am_hd hs
  have hy : am_ri 0 := ⟨by omega, by omega⟩
  have kt_ := fun z => kt z X H locs r hP hD hS ho hl (am_tl hs) hr
  have kf_ := fun z => kf z X H locs r hP hD hS ho hl (am_tl hs) hr
  exact lv_if_ne X.1 X.2.1 hd ht (fun e => kt_ (fun z => e ((am_ieq hx hy).mpr z))) (fun e => kf_ ((am_ieq hx hy).mp e))
theorem an_if_lt {x : Int} {off : Int} {tgt : Nat} (hd : decode M.2.1 pc = .ok (.ifCond .lt off, 3)) (ht : (pc : Int) + off = (tgt : Int)) (kt : x < 0 → an_W p l e R s m args below meth c G A cs ss E M Y (tgt) ls (st) h) (kf : 0 ≤ x → an_W p l e R s m args below meth c G A cs ss E M Y (pc + 3) ls (st) h) : an_W p l e R s m args below meth c G A cs ss E M Y pc ls (.inl x :: st) h := by
  intro X H locs r hP hD hS ho hl hs hr
  have hx : am_ri x := am_hd hs
  have hy : am_ri 0 := ⟨by omega, by omega⟩
  have kt_ := fun z => kt z X H locs r hP hD hS ho hl (am_tl hs) hr
  have kf_ := fun z => kf z X H locs r hP hD hS ho hl (am_tl hs) hr
  exact lv_if_lt X.1 X.2.1 hd ht (fun e => kt_ ((am_ilt hx hy).mp e)) (fun e => kf_ (by have := mt (am_ilt hx hy).mpr e; omega))
theorem an_if_ge {x : Int} {off : Int} {tgt : Nat} (hd : decode M.2.1 pc = .ok (.ifCond .ge off, 3)) (ht : (pc : Int) + off = (tgt : Int)) (kt : 0 ≤ x → an_W p l e R s m args below meth c G A cs ss E M Y (tgt) ls (st) h) (kf : x < 0 → an_W p l e R s m args below meth c G A cs ss E M Y (pc + 3) ls (st) h) : an_W p l e R s m args below meth c G A cs ss E M Y pc ls (.inl x :: st) h := by
  intro X H locs r hP hD hS ho hl hs hr
  have hx : am_ri x := am_hd hs
  have hy : am_ri 0 := ⟨by omega, by omega⟩
  have kt_ := fun z => kt z X H locs r hP hD hS ho hl (am_tl hs) hr
  have kf_ := fun z => kf z X H locs r hP hD hS ho hl (am_tl hs) hr
  exact lv_if_ge X.1 X.2.1 hd ht (fun e => kt_ ((am_ile hy hx).mp e)) (fun e => kf_ (by have := mt (am_ile hy hx).mpr e; omega))
theorem an_if_gt {x : Int} {off : Int} {tgt : Nat} (hd : decode M.2.1 pc = .ok (.ifCond .gt off, 3)) (ht : (pc : Int) + off = (tgt : Int)) (kt : 0 < x → an_W p l e R s m args below meth c G A cs ss E M Y (tgt) ls (st) h) (kf : x ≤ 0 → an_W p l e R s m args below meth c G A cs ss E M Y (pc + 3) ls (st) h) : an_W p l e R s m args below meth c G A cs ss E M Y pc ls (.inl x :: st) h := by
  intro X H locs r hP hD hS ho hl hs hr
  have hx : am_ri x := am_hd hs
  have hy : am_ri 0 := ⟨by omega, by omega⟩
  have kt_ := fun z => kt z X H locs r hP hD hS ho hl (am_tl hs) hr
  have kf_ := fun z => kf z X H locs r hP hD hS ho hl (am_tl hs) hr
  exact lv_if_gt X.1 X.2.1 hd ht (fun e => kt_ ((am_ilt hy hx).mp e)) (fun e => kf_ (by have := mt (am_ilt hy hx).mpr e; omega))
theorem an_if_le {x : Int} {off : Int} {tgt : Nat} (hd : decode M.2.1 pc = .ok (.ifCond .le off, 3)) (ht : (pc : Int) + off = (tgt : Int)) (kt : x ≤ 0 → an_W p l e R s m args below meth c G A cs ss E M Y (tgt) ls (st) h) (kf : 0 < x → an_W p l e R s m args below meth c G A cs ss E M Y (pc + 3) ls (st) h) : an_W p l e R s m args below meth c G A cs ss E M Y pc ls (.inl x :: st) h := by
  intro X H locs r hP hD hS ho hl hs hr
  have hx : am_ri x := am_hd hs
  have hy : am_ri 0 := ⟨by omega, by omega⟩
  have kt_ := fun z => kt z X H locs r hP hD hS ho hl (am_tl hs) hr
  have kf_ := fun z => kf z X H locs r hP hD hS ho hl (am_tl hs) hr
  exact lv_if_le X.1 X.2.1 hd ht (fun e => kt_ ((am_ile hx hy).mp e)) (fun e => kf_ (by have := mt (am_ile hx hy).mpr e; omega))
theorem an_goto {off : Int} {tgt : Nat} (hd : decode M.2.1 pc = .ok (.goto off, 3)) (ht : (pc : Int) + off = (tgt : Int)) (k : an_W p l e R s m args below meth c G A cs ss E M Y (tgt) ls (st) h) : an_W p l e R s m args below meth c G A cs ss E M Y pc ls (st) h := by
  intro X H locs r hP hD hS ho hl hs hr
  exact lv_goto X.1 X.2.1 hd ht (k X H locs r hP hD hS ho hl hs hr)
theorem an_lcmp {x y : Int} (hd : decode M.2.1 pc = .ok (.lcmp, 1)) (k1 : y < x → an_W p l e R s m args below meth c G A cs ss E M Y (pc + 1) ls (.inl 1 :: st) h) (k2 : x = y → an_W p l e R s m args below meth c G A cs ss E M Y (pc + 1) ls (.inl 0 :: st) h) (k3 : x < y → an_W p l e R s m args below meth c G A cs ss E M Y (pc + 1) ls (.inl (-1) :: st) h) : an_W p l e R s m args below meth c G A cs ss E M Y pc ls (.inr (.inl y) :: .inr (.inl x) :: st) h := by
  intro X H locs r hP hD hS ho hl hs hr
  have hy : am_rl y := am_hd hs
  have hx : am_rl x := am_hd (am_tl hs)
  refine W.lcmp X.1 X.2.1 hd ?_
  rw [am_lcmp_def x y hx hy]
  by_cases h1 : y < x
  · rw [if_pos h1]; exact k1 h1 X H locs r hP hD hS ho hl (am_cs (show am_ri 1 from ⟨by omega, by omega⟩) (am_tl (am_tl hs))) hr
  · rw [if_neg h1]
    by_cases h2 : x = y
    · rw [if_pos h2]; exact k2 h2 X H locs r hP hD hS ho hl (am_cs (show am_ri 0 from ⟨by omega, by omega⟩) (am_tl (am_tl hs))) hr
    · rw [if_neg h2]; exact k3 (by omega) X H locs r hP hD hS ho hl (am_cs (show am_ri (-1) from ⟨by omega, by omega⟩) (am_tl (am_tl hs))) hr
theorem an_tsw {x dflt lo hi : Int} {offs : Array Int} {len : Nat} (hd : decode M.2.1 pc = .ok (.tableswitch dflt lo hi offs, len)) (hlen : lo + offs.size = hi + 1) (hpos : offs.toList.all (fun o => decide (0 ≤ (pc : Int) + o)) = true) (hpd : 0 ≤ (pc : Int) + dflt) (hrl : -2147483648 ≤ lo ∧ hi < 2147483648) (kd : (x < lo ∨ hi < x) → an_W p l e R s m args below meth c G A cs ss E M Y (((pc : Int) + dflt).toNat) ls (st) h) (ks : am_sw (fun t => an_W p l e R s m args below meth c G A cs ss E M Y t ls st h) x pc lo offs.toList) : an_W p l e R s m args below meth c G A cs ss E M Y pc ls (.inl x :: st) h := by
  intro X H locs r hP hD hS ho hl hs hr
  have hx : am_ri x := am_hd hs
  by_cases h1 : x < lo ∨ hi < x
  · refine lv_tableOut X.1 X.2.1 hd (by rw [am_i hx]; exact h1) (tgt := ((pc : Int) + dflt).toNat) (by omega) (kd h1 X H locs r hP hD hS ho hl (am_tl hs) hr)
  · have h2 : ¬ x < lo := fun z => h1 (Or.inl z)
    have h3 : ¬ hi < x := fun z => h1 (Or.inr z)
    have hi2 : (x - lo).toNat < offs.size := by omega
    have hof : offs[(x - lo).toNat]? = some offs[(x - lo).toNat] := Array.getElem?_eq_getElem hi2
    have hol : offs.toList[(x - lo).toNat]? = some offs[(x - lo).toNat] := by rw [Array.getElem?_toList]; exact hof
    have hp : 0 ≤ (pc : Int) + offs[(x - lo).toNat] := by simpa using List.all_eq_true.mp hpos _ (List.mem_of_getElem? hol)
    exact lv_tableIn X.1 X.2.1 hd (by rw [am_i hx]; exact h2) (by rw [am_i hx]; exact h3) (by rw [am_i hx]; exact hof) (tgt := ((pc : Int) + offs[(x - lo).toNat]).toNat) (by omega) (am_sw_at _ _ _ _ ks hol (by omega) X H locs r hP hD hS ho hl (am_tl hs) hr)
theorem an_get_ {o k nn j t idx : Nat} {ref n dsc : String} {fin : Bool} {v : am_V} (hd : decode M.2.1 pc = .ok (.getfield idx, 3)) (hY : Y[o]? = some (k, nn)) (hf : am_fo k j ref n dsc t fin) (hl : Cond.fieldLink M.1.cls idx ref n dsc ∈ am_ws) (hv : ∀ ad, am_fv ad o t (h o j) = am_vv ad v) (hg : am_rg t (h o j) → am_rv v) (kk : an_W p l e R s m args below meth c G A cs ss E M Y (pc + 3) ls (v :: st) h) : an_W p l e R s m args below meth c G A cs ss E M Y pc ls (.inr (.inr o) :: st) h := by
  intro X H locs r hP hD hS ho hll hs hr
  obtain ⟨C, T, N, ty, f1, f2, f3, f4, f5, f6, f7, f8, f9, -⟩ := hf
  have he := am_c_at (ad := G.2.1) (ka := G.2.2.1) (h := h) hY
  rw [am_e_o f6] at he
  have hg2 := ho o _ hY j
  rw [am_ty_o f6, f4] at hg2
  refine va_get (T := T) (ref := ref) X.1 X.2.1 X.2.2.2.2.2.2.1 f7 X.2.2.2.2.1 X.2.2.2.2.2.2.2.2.1 hP o he f1 j f2 (by rw [f3]; exact X.2.2.2.2.2.2.1 _ hl) (fun x hx => by rw [f3] at hx ⊢; exact hx) (am_fs_at (by rw [f5]; exact f2) f4) hd ?_
  rw [hv]
  exact kk X H locs r hP hD hS ho hll (am_cs (hg hg2) (am_tl hs)) hr
theorem an_getI {o k nn j idx : Nat} {ref n dsc : String} {fin : Bool} (hd : decode M.2.1 pc = .ok (.getfield idx, 3)) (hf : am_fo k j ref n dsc 0 fin) (hl : Cond.fieldLink M.1.cls idx ref n dsc ∈ am_ws) (hY : Y[o]? = some (k, nn)) (kk : an_W p l e R s m args below meth c G A cs ss E M Y (pc + 3) ls (.inl (h o j) :: st) h) : an_W p l e R s m args below meth c G A cs ss E M Y pc ls (.inr (.inr o) :: st) h :=
  an_get_ hd hY hf hl (fun _ => rfl) am_rg0 kk
theorem an_getZ {o k nn j idx : Nat} {ref n dsc : String} {fin : Bool} (hd : decode M.2.1 pc = .ok (.getfield idx, 3)) (hf : am_fo k j ref n dsc 2 fin) (hl : Cond.fieldLink M.1.cls idx ref n dsc ∈ am_ws) (hY : Y[o]? = some (k, nn)) (kk : an_W p l e R s m args below meth c G A cs ss E M Y (pc + 3) ls (.inl (h o j) :: st) h) : an_W p l e R s m args below meth c G A cs ss E M Y pc ls (.inr (.inr o) :: st) h :=
  an_get_ hd hY hf hl (fun _ => rfl) am_rg2 kk
theorem an_getJ {o k nn j idx : Nat} {ref n dsc : String} {fin : Bool} (hd : decode M.2.1 pc = .ok (.getfield idx, 3)) (hf : am_fo k j ref n dsc 1 fin) (hl : Cond.fieldLink M.1.cls idx ref n dsc ∈ am_ws) (hY : Y[o]? = some (k, nn)) (kk : an_W p l e R s m args below meth c G A cs ss E M Y (pc + 3) ls (.inr (.inl (h o j)) :: st) h) : an_W p l e R s m args below meth c G A cs ss E M Y pc ls (.inr (.inr o) :: st) h :=
  an_get_ hd hY hf hl (fun _ => rfl) am_rg1 kk
theorem an_getR {o k nn j idx q : Nat} {ref n dsc : String} {fin : Bool} (hd : decode M.2.1 pc = .ok (.getfield idx, 3)) (hf : am_fo k j ref n dsc (q + 3) fin) (hl : Cond.fieldLink M.1.cls idx ref n dsc ∈ am_ws) (hY : Y[o]? = some (k, nn)) (kk : an_W p l e R s m args below meth c G A cs ss E M Y (pc + 3) ls (.inr (.inr (o + q)) :: st) h) : an_W p l e R s m args below meth c G A cs ss E M Y pc ls (.inr (.inr o) :: st) h :=
  an_get_ (v := .inr (.inr (o + q))) hd hY hf hl (fun ad => by simp [am_fv, am_vv]) (fun _ => trivial) kk
theorem an_iald {o n : Nat} {i : Int} (hd : decode M.2.1 pc = .ok (.iaload, 1)) (hY : Y[o]? = some (14, n)) (hi : 0 ≤ i ∧ i < n) (kk : an_W p l e R s m args below meth c G A cs ss E M Y (pc + 1) ls (.inl (h o i.toNat) :: st) h) : an_W p l e R s m args below meth c G A cs ss E M Y pc ls (.inl i :: .inr (.inr o) :: st) h := by
  intro X H locs r hP hD hS ho hll hs hr
  have he := am_c_at (ad := G.2.1) (ka := G.2.2.1) (h := h) hY
  rw [am_e14] at he
  have hir : am_ri i := am_hd hs
  refine va_iald X.1 X.2.1 X.2.2.2.2.2.2.2.2.1 hP o 1 he rfl (am_in hir hi.1 hi.2) hd ?_
  rw [am_cn hir]
  exact kk X H locs r hP hD hS ho hll (am_cs (am_rg0 (ho o _ hY i.toNat)) (am_tl (am_tl hs))) hr
theorem an_lald {o n : Nat} {i : Int} (hd : decode M.2.1 pc = .ok (.laload, 1)) (hY : Y[o]? = some (15, n)) (hi : 0 ≤ i ∧ i < n) (kk : an_W p l e R s m args below meth c G A cs ss E M Y (pc + 1) ls (.inr (.inl (h o i.toNat)) :: st) h) : an_W p l e R s m args below meth c G A cs ss E M Y pc ls (.inl i :: .inr (.inr o) :: st) h := by
  intro X H locs r hP hD hS ho hll hs hr
  have he := am_c_at (ad := G.2.1) (ka := G.2.2.1) (h := h) hY
  rw [am_e15] at he
  have hir : am_ri i := am_hd hs
  refine va_lald X.1 X.2.1 X.2.2.2.2.2.2.2.2.1 hP o 2 he rfl (am_in hir hi.1 hi.2) hd ?_
  rw [am_cn hir]
  exact kk X H locs r hP hD hS ho hll (am_cs (am_rg1 (ho o _ hY i.toNat)) (am_tl (am_tl hs))) hr
theorem an_last {o n : Nat} {i x : Int} (hd : decode M.2.1 pc = .ok (.lastore, 1)) (hY : Y[o]? = some (15, n)) (hi : 0 ≤ i ∧ i < n) (kk : an_W p l e R s m args below meth c G A cs ss E M Y (pc + 1) ls st (am_u h o i.toNat x)) : an_W p l e R s m args below meth c G A cs ss E M Y pc ls (.inr (.inl x) :: .inl i :: .inr (.inr o) :: st) h := by
  intro X H locs r hP hD hS ho hll hs hr
  have he := am_c_at (ad := G.2.1) (ka := G.2.2.1) (h := h) hY
  rw [am_e15] at he
  have hir : am_ri i := am_hd (am_tl hs)
  have hset : (am_c G.2.1 G.2.2.1 Y h).set o (G.2.1 o, .inl (G.2.2.1 15, n, .inr (.inl (vp_updL (fun j => Int64.ofInt (h o j)) i.toNat (Int64.ofInt x))))) = am_c G.2.1 G.2.2.1 Y (am_u h o i.toNat x) := by
    refine am_c_set hY ?_ (am_u_n h o i.toNat x)
    rw [am_e15, am_updL, am_u_f]
  refine va_last X.1 X.2.1 X.2.2.2.2.2.2.2.2.1 hP hD hS o 2 he rfl (am_in hir hi.1 hi.2) hd ?_
  rw [am_cn hir, hset]
  intro H1 locs1 hP1 hD1 hS1
  refine kk X H1 locs1 r hP1 hD1 hS1 (am_ok_u ho fun y hy => ?_) hll (am_tl (am_tl (am_tl hs))) hr
  rw [hY] at hy
  cases hy
  exact am_1rg (am_hd hs)
theorem an_alen {o k n : Nat} (hd : decode M.2.1 pc = .ok (.arraylength, 1)) (hY : Y[o]? = some (k, n)) (hk : 13 ≤ k ∧ k ≤ 17) (hn : n < 2147483648) (kk : an_W p l e R s m args below meth c G A cs ss E M Y (pc + 1) ls (.inl (n : Int) :: st) h) : an_W p l e R s m args below meth c G A cs ss E M Y pc ls (.inr (.inr o) :: st) h := by
  intro X H locs r hP hD hS ho hll hs hr
  have he := am_c_at (ad := G.2.1) (ka := G.2.2.1) (h := h) hY
  have hkk := kk X H locs r hP hD hS ho hll (am_cs (show am_ri (n : Int) from ⟨by omega, by omega⟩) (am_tl hs)) hr
  have e1 : Int32.ofNat n = Int32.ofInt (n : Int) := rfl
  have hc : k = 13 ∨ k = 14 ∨ k = 15 ∨ k = 16 ∨ k = 17 := by omega
  rcases hc with rfl | rfl | rfl | rfl | rfl
  · rw [am_e13] at he
    exact va_alen X.1 X.2.1 X.2.2.2.2.2.2.2.2.1 hP o 0 he rfl e1 hd hkk
  · rw [am_e14] at he
    exact va_alen X.1 X.2.1 X.2.2.2.2.2.2.2.2.1 hP o 1 he rfl e1 hd hkk
  · rw [am_e15] at he
    exact va_alen X.1 X.2.1 X.2.2.2.2.2.2.2.2.1 hP o 2 he rfl e1 hd hkk
  · rw [am_e16] at he
    exact va_alen X.1 X.2.1 X.2.2.2.2.2.2.2.2.1 hP o 3 he rfl e1 hd hkk
  · rw [am_e17] at he
    exact va_alen X.1 X.2.1 X.2.2.2.2.2.2.2.2.1 hP o 4 he rfl e1 hd hkk
theorem an_behind {H : Heap} {locs : List Loc} {r : Array Slot} {a : Array Value} {st1 : List Value}
    (hr : va_Run p l e R s m args below meth c H locs cs ss 0 0 (F0 m pc r st1) (st.map (am_vv G.2.1)) (am_Q G A Y Q' a) A) (hX : am_X M p s m args meth c G A) (hD : va_D A (am_c G.2.1 G.2.2.1 Y h)) (hS : va_S A s.heap H locs) (hll : am_ll ls) (hs : ∀ v ∈ st, am_rv v) (hlv : am_lv G.2.1 M.2.2.1 ls r)
    (kk : ∀ rv h1, Q' rv h1 → an_W p l e R s m args below meth c G A cs ss E M Y (pc + 3) ls (rv.toList ++ st) h1) : W p l e R s m args below meth c H locs cs ss E (F0 m pc r st1) := by
  intro T hT X
  obtain ⟨v, st₀, t, T', L, h0, X', hL, e1, e2, ⟨⟨rv, h1, hv, hq, hok, hrv, hP1⟩, hz, hk⟩, stp⟩ := hr T hT X
  cases hv
  rw [h0] at hz hk
  have hS1 : va_S A s.heap T'.heap (locs ++ L) := ⟨Nat.le_trans hS.1 (by rw [e1]; exact hz), fun q h1 h2 => by rw [e1, hk q (Nat.lt_of_lt_of_le h1 hS.1) h2]; exact hS.2.1 q h1 h2, fun q hq => by
      rcases List.mem_append.mp hq with h | h
      · exact hS.2.2 q h
      · exact hL q h⟩
  have hst : ∀ v ∈ rv.toList ++ st, am_rv v := fun v hv => by
    rcases List.mem_append.mp hv with h | h
    · exact hrv v (by cases rv with
        | none => simp at h
        | some w => simp at h; rw [h])
    · exact hs v h
  obtain ⟨t2, a1, b1⟩ := kk rv h1 hq hX T'.heap (locs ++ L) r (by rw [e1]; exact hP1) (am_D_of hD) hS1 hok hll hst hlv T' rfl X'
  refine ⟨t2, stp t2 ?_, b1⟩
  have e3 : (rv.map (am_vv G.2.1)).toList ++ st.map (am_vv G.2.1) = (rv.toList ++ st).map (am_vv G.2.1) := by cases rv <;> simp
  show Steps p.tables e below (T'.setTop { method := m, pc := pc + 3, locals := r, stack := (rv.map (am_vv G.2.1)).toList ++ st.map (am_vv G.2.1), locked := none }) t2
  rw [e3]
  exact a1
theorem an_callV {o k nn idx n : Nat} {As : List am_V} (hd : decode M.2.1 pc = .ok (.invokevirtual idx, 3)) (hw : am_cv M' n) (hl : Cond.methodLink M.1.cls idx M'.1 ∈ am_ws) (hrf : d' + 1 ≤ R.frames) (hrl : 59 + 64 * d' ≤ R.locals) (hcs : cs ≤ R.cells) (hss : ss ≤ R.slots) (hn : As.length = n) (hst : st0 = As.reverse ++ .inr (.inr o) :: st) (hrs : am_rs st ≤ 8)
    (hc : ∃ (T : u_T) (N : Nat), k < 13 ∧ am_cl[k]? = some (M'.1.cls, T, N)) (hY : Y[o]? = some (k, nn)) (hM : am_Met M' d' Y (.inr (.inr o) :: As) h Q')
    (kk : ∀ rv h1, Q' rv h1 → an_W p l e R s m args below meth c G A cs ss E M Y (pc + 3) ls (rv.toList ++ st) h1) : an_W p l e R s m args below meth c G A cs ss E M Y pc ls st0 h := by
  subst hst
  intro X H locs r hP hD hS ho hll hs hr
  have hA : ∀ v ∈ (.inr (.inr o) :: As : List am_V), am_rv v := fun v hv => by
    rcases List.mem_cons.mp hv with rfl | hv
    · trivial
    · exact hs v (List.mem_append_left _ (List.mem_reverse.mpr hv))
  have hsr : ∀ v ∈ st, am_rv v := fun v hv => hs v (List.mem_append_right _ (List.mem_cons_of_mem _ hv))
  obtain ⟨T, N, hk, hc⟩ := hc
  have he := am_c_at (ad := G.2.1) (ka := G.2.2.1) (h := h) hY
  rw [am_e_o hk] at he
  have hMet := hM l G A hD ho hA
  have hW := X.2.2.2.2.2.2.1
  refine an_behind (a := ((Value.ref (G.2.1 o)) :: As.map (am_vv G.2.1)).toArray) (Q' := Q') (va_runV (As := As.map (am_vv G.2.1)) (b := G.2.1 o) (C := M'.1.cls) (own := M.1.cls) (nL := M.2.2.1) (Ts := am_ws) ⟨X.1, X.2.1, X.2.2.1, X.2.2.2.2.1, hW⟩ hMet
      ⟨callB_of n hW (am_gws hw.1) rfl rfl rfl (hW _ hw.2.1) (hW _ hl) hw.2.2.2.2.1 ⟨hrf, by have := hw.2.2.2.2.2; show 8 + (M'.2.2.1 + 11) + 64 * d' ≤ R.locals; omega⟩, hW _ hw.2.2.1, hW _ hw.2.2.2.1⟩
      ⟨am_W.blind, va_recv X.2.2.2.2.2.2.2.2.1 hP hc he, fun U hU hWU => ⟨rfl, am_W.at hP X.2.2.2.2.2.2.2.2.1 X.2.2.2.2.2.2.2.1 X.2.2.2.2.2.2.2.2.2 hS hU hWU⟩⟩ rfl (by simpa using hn) (hr.1) (by simp [am_vv]) (lv_room (by rw [am_rs_eq]; exact hrs)) hd ⟨hcs, hss⟩) X hD hS hll hsr hr kk
end
